/-! The model finds groups; locators of both sides. -/
def swc (m : Int) : Int := 1000 * rk (m / 1000) + m % 1000
theorem swc_ok {m : Int} (h : okLc m) : okLc (swc m) ∧ swc (swc m) = m ∧ (swc m) / 1000 = rk (m / 1000) ∧ (swc m) % 1000 = m % 1000 ∧ rk (rk (m / 1000)) = m / 1000 := by
  have e : m / 1000 = 0 ∨ m / 1000 = 1 ∨ m / 1000 = 2 := by omega
  unfold swc
  rcases e with e | e | e <;> rw [e]
  · rw [show rk 0 = 1 from rfl, show (1000 * (1 : Int) + m % 1000) / 1000 = 1 by omega, show rk 1 = 0 from rfl]
    refine ⟨⟨?_, ?_, ?_⟩, ?_, ?_, ?_, ?_⟩ <;> first | omega | rfl
  · rw [show rk 1 = 0 from rfl, show (1000 * (0 : Int) + m % 1000) / 1000 = 0 by omega, show rk 0 = 1 from rfl]
    refine ⟨⟨?_, ?_, ?_⟩, ?_, ?_, ?_, ?_⟩ <;> first | omega | rfl
  · rw [show rk 2 = 2 from rfl, show (1000 * (2 : Int) + m % 1000) / 1000 = 2 by omega, show rk 2 = 2 from rfl]
    refine ⟨⟨?_, ?_, ?_⟩, ?_, ?_, ?_, ?_⟩ <;> first | omega | rfl
def okLoc (L M : List Int) : Prop := L.Pairwise (fun a b => a < b) ∧ (∀ c ∈ L, okLc c) ∧ (∀ m ∈ M, okLc m) ∧ M.Nodup ∧ L.length ≤ 10 ∧ ∀ m, okLc m → (m ∈ M ↔ swc m ∈ L)
theorem sub_len : ∀ {l1 l2 : List Int}, l1.Nodup → (∀ x ∈ l1, x ∈ l2) → l1.length ≤ l2.length
  | [], _, _, _ => Nat.zero_le _
  | a :: l1, l2, hn, hs => by
    obtain ⟨h1, h2⟩ := List.nodup_cons.mp hn
    have h3 : l1.length ≤ (l2.erase a).length := sub_len h2 (fun x hx => (List.mem_erase_of_ne (fun e => h1 (by rw [← e]; exact hx))).mpr (hs x (List.mem_cons_of_mem _ hx)))
    have h4 := List.length_erase_of_mem (hs a List.mem_cons_self)
    have h5 : 0 < l2.length := List.length_pos_of_mem (hs a List.mem_cons_self)
    simp only [List.length_cons]
    omega
theorem swc_inj {a b : Int} (ha : okLc a) (hb : okLc b) (e : swc a = swc b) : a = b := by
  rw [← (swc_ok ha).2.1, ← (swc_ok hb).2.1, e]
theorem okLoc.nil : okLoc [] [] := ⟨List.Pairwise.nil, fun _ h => absurd h List.not_mem_nil, fun _ h => absurd h List.not_mem_nil, List.nodup_nil, by decide, fun _ _ => ⟨fun h => absurd h List.not_mem_nil, fun h => absurd h List.not_mem_nil⟩⟩
theorem jnA_len : ∀ (d : Nat) (l : List Gp), (jnA d l).length ≤ l.length
  | 0, _ => Nat.le_refl _
  | d + 1, l => by
    have h := (jn1_len l).1
    cases e : jn1 l with
    | nil =>
      have e2 : jnA (d + 1) l = [] := by unfold jnA; rw [e]
      rw [e2]
      exact Nat.zero_le _
    | cons g gs =>
      have h2 := jnA_len d gs
      rw [e] at h
      rw [jnA_cons e]
      simp only [List.length_cons] at h ⊢
      omega
