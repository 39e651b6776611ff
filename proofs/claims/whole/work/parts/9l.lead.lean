/-! References that lead somewhere: pure. -/
abbrev hitL (en : List EnT) (a k : Nat) : Prop := (k = a ∨ prE en k = (a : Int)) ∧ enL (en.getD k enD) ≠ []
def lcdB (en : List EnT) (a : Nat) : Bool := (List.range en.length).any (fun k => decide (hitL en a k))
abbrev lcd (en : List EnT) (a : Nat) : Prop := lcdB en a = true
theorem lcd_iff {en : List EnT} {a : Nat} : lcd en a ↔ ∃ k, k < en.length ∧ hitL en a k := by
  unfold lcd lcdB
  rw [List.any_eq_true]
  constructor
  · rintro ⟨k, h1, h2⟩
    exact ⟨k, List.mem_range.mp h1, of_decide_eq_true h2⟩
  · rintro ⟨k, h1, h2⟩
    exact ⟨k, List.mem_range.mpr h1, decide_eq_true h2⟩
def nxE (en : List EnT) (e : Int) : Int := if e = -1 then -1 else enX (en.getD e.toNat enD)
/-- the first located one among d -/
def wlk (en : List EnT) : Nat → Int → Int
  | 0, _ => -1
  | d + 1, e => if e = -1 then -1 else if lcd en e.toNat then e else wlk en d (nxE en e)
def itE (en : List EnT) : Nat → Int → Int
  | 0, e => e
  | k + 1, e => itE en k (nxE en e)
abbrev endE (en : List EnT) (e : Int) : Int := wlk en (en.length + 1) e
abbrev fineE (en : List EnT) (e : Int) : Prop := e ≠ -1 ∧ lcd en e.toNat
theorem itE_add (en : List EnT) (a : Nat) : ∀ (b : Nat) (e : Int), itE en (a + b) e = itE en a (itE en b e)
  | 0, _ => rfl
  | b + 1, e => itE_add en a b (nxE en e)
theorem wlk_no (en : List EnT) : ∀ (d : Nat) (e : Int), (∀ k, k < d → ¬ fineE en (itE en k e)) → wlk en d e = -1
  | 0, _, _ => rfl
  | d + 1, e, h => by
    unfold wlk
    by_cases g : e = -1
    · rw [if_pos g]
    · rw [if_neg g, if_neg (show ¬ lcd en e.toNat from fun g2 => h 0 (by omega) ⟨g, g2⟩)]
      exact wlk_no en d _ (fun k hk => h (k + 1) (by omega))
theorem wlk_stable (en : List EnT) : ∀ (d k : Nat) (e : Int), k < d → fineE en (itE en k e) → wlk en (d + 1) e = wlk en d e
  | 0, k, e, hk, _ => absurd hk (Nat.not_lt_zero _)
  | d + 1, k, e, hk, h => by
    rw [show wlk en (d + 1 + 1) e = if e = -1 then -1 else if lcd en e.toNat then e else wlk en (d + 1) (nxE en e) from rfl, show wlk en (d + 1) e = if e = -1 then -1 else if lcd en e.toNat then e else wlk en d (nxE en e) from rfl]
    by_cases g : e = -1
    · rw [if_pos g, if_pos g]
    · rw [if_neg g, if_neg g]
      by_cases g2 : lcd en e.toNat
      · rw [if_pos g2, if_pos g2]
      · rw [if_neg g2, if_neg g2]
        cases k with
        | zero => exact absurd h.2 g2
        | succ k => exact wlk_stable en d k _ (by omega) h
/-- references of an entry -/
theorem nxE_in {en : List EnT} (h : okRf en) {e : Int} (he : -1 ≤ e ∧ e < (en.length : Int)) : -1 ≤ nxE en e ∧ nxE en e < (en.length : Int) := by
  unfold nxE
  split
  · omega
  · have := (h _ (en_mem (i := e.toNat) (by omega))).1
    omega
theorem itE_in {en : List EnT} (h : okRf en) : ∀ (k : Nat) {e : Int}, -1 ≤ e ∧ e < (en.length : Int) → -1 ≤ itE en k e ∧ itE en k e < (en.length : Int)
  | 0, _, he => he
  | k + 1, _, he => itE_in h k (nxE_in h he)
theorem itE_none (en : List EnT) : ∀ (k : Nat), itE en k (-1) = -1
  | 0 => rfl
  | k + 1 => by
    show itE en k (nxE en (-1)) = -1
    rw [show nxE en (-1) = -1 from rfl]
    exact itE_none en k
theorem pigeon {f : Nat → Int} {n : Nat} (hf : ∀ k, k ≤ n → 0 ≤ f k ∧ f k < (n : Int)) : ∃ i j, i < j ∧ j ≤ n ∧ f i = f j := by
  by_cases g : ∃ i j, i < j ∧ j ≤ n ∧ f i = f j
  · exact g
  · exfalso
    have hnd : ((List.range (n + 1)).map f).Nodup := by
      unfold List.Nodup
      rw [List.pairwise_map]
      refine List.Pairwise.imp_of_mem ?_ List.pairwise_lt_range
      intro a b ha hb hab e
      have := List.mem_range.mp hb
      exact g ⟨a, b, hab, by omega, e⟩
    have := sub_len (l2 := (List.range n).map (fun (k : Nat) => (k : Int))) hnd (fun x hx => by
      obtain ⟨k, hk, rfl⟩ := List.mem_map.mp hx
      have h1 := hf k (by have := List.mem_range.mp hk; omega)
      exact List.mem_map.mpr ⟨(f k).toNat, List.mem_range.mpr (by omega), by omega⟩)
    simp only [List.length_map, List.length_range] at this
    omega
theorem wlk_end {en : List EnT} (h : okRf en) {e : Int} (he : -1 ≤ e ∧ e < (en.length : Int)) : wlk en (en.length + 1 + 1) e = endE en e := by
  by_cases g : ∃ k, k < en.length + 1 ∧ fineE en (itE en k e)
  · obtain ⟨k, h1, h2⟩ := g
    exact wlk_stable en _ k e h1 h2
  · have g2 : ∀ k, k < en.length + 1 → ¬ fineE en (itE en k e) := fun k hk g3 => g ⟨k, hk, g3⟩
    rw [show endE en e = -1 from wlk_no en _ e g2]
    refine wlk_no en _ e (fun k hk => ?_)
    by_cases hk2 : k < en.length + 1
    · exact g2 k hk2
    · obtain rfl : k = en.length + 1 := by omega
      intro hf
      have hne : ∀ j, j ≤ en.length → itE en j e ≠ -1 := fun j hj g3 => by
        have := itE_add en (en.length + 1 - j) j e
        rw [show en.length + 1 - j + j = en.length + 1 by omega, g3, itE_none] at this
        exact hf.1 this
      obtain ⟨i, j, h1, h2, h3⟩ := pigeon (f := fun k => itE en k e) (n := en.length) (fun k hk => by
        have := itE_in h k he
        have := hne k hk
        show 0 ≤ itE en k e ∧ itE en k e < _
        omega)
      have e1 := itE_add en (en.length + 1 - j) j e
      have e2 := itE_add en (en.length + 1 - j) i e
      rw [← show itE en i e = itE en j e from h3, ← e2, show en.length + 1 - j + j = en.length + 1 by omega] at e1
      rw [e1] at hf
      exact g2 _ (by omega) hf
/-! sums -/
def sumN (f : Nat → Nat) : Nat → Nat
  | 0 => 0
  | n + 1 => sumN f n + f n
theorem sumN_congr {f g : Nat → Nat} : ∀ {n : Nat}, (∀ i, i < n → f i = g i) → sumN f n = sumN g n
  | 0, _ => rfl
  | n + 1, h => by
    show sumN f n + f n = sumN g n + g n
    rw [sumN_congr (fun i hi => h i (by omega)), h n (by omega)]
theorem sumN_add (f g : Nat → Nat) : ∀ n, sumN (fun i => f i + g i) n = sumN f n + sumN g n
  | 0 => rfl
  | n + 1 => by
    show sumN (fun i => f i + g i) n + (f n + g n) = (sumN f n + f n) + (sumN g n + g n)
    rw [sumN_add f g n]
    omega
theorem sumN_zero : ∀ n, sumN (fun _ => 0) n = 0
  | 0 => rfl
  | n + 1 => by
    show sumN (fun _ => 0) n + 0 = 0
    rw [sumN_zero n]
theorem sumN_swap (g : Nat → Nat → Nat) (m : Nat) : ∀ n, sumN (fun i => sumN (fun j => g i j) m) n = sumN (fun j => sumN (fun i => g i j) n) m
  | 0 => (sumN_zero m).symm
  | n + 1 => by
    show sumN (fun i => sumN (fun j => g i j) m) n + sumN (fun j => g n j) m = sumN (fun j => sumN (fun i => g i j) n + g n j) m
    rw [sumN_add, sumN_swap g m n]
theorem sumN_if (p : Prop) [Decidable p] (f : Nat → Nat) (n : Nat) : (if p then sumN f n else 0) = sumN (fun a => if p then f a else 0) n := by
  by_cases h : p
  · rw [if_pos h]
    exact sumN_congr (fun i _ => (if_pos h).symm)
  · rw [if_neg h]
    exact ((sumN_congr (fun i _ => if_neg h)).trans (sumN_zero n)).symm
theorem sumN_none {f : Nat → Nat} : ∀ {n : Nat}, (∀ i, i < n → f i = 0) → sumN f n = 0 := fun {n} h => by
  rw [← sumN_zero n]
  exact sumN_congr h
theorem sumN_one {f : Nat → Nat} {k : Nat} : ∀ {n : Nat}, k < n → (∀ i, i < n → i ≠ k → f i = 0) → sumN f n = f k
  | 0, h, _ => absurd h (Nat.not_lt_zero _)
  | n + 1, h, h2 => by
    show sumN f n + f n = f k
    by_cases g : k = n
    · rw [sumN_none (fun i hi => h2 i (by omega) (by omega)), g, Nat.zero_add]
    · rw [sumN_one (k := k) (by omega) (fun i hi hne => h2 i (by omega) hne), h2 n (by omega) (fun g2 => g g2.symm)]
      rfl
theorem sumN_le {f : Nat → Nat} {c : Nat} : ∀ {n : Nat}, (∀ i, i < n → f i ≤ c) → sumN f n ≤ c * n
  | 0, _ => Nat.zero_le _
  | n + 1, h => by
    have h1 := sumN_le (n := n) (fun i hi => h i (by omega))
    have h2 := h n (by omega)
    show sumN f n + f n ≤ c * (n + 1)
    rw [Nat.mul_add]
    omega
/-! dead ones -/
abbrev xE (en : List EnT) (i : Nat) : Int := enX (en.getD i enD)
abbrev bE (en : List EnT) (i t : Nat) : Prop := enO (en.getD i enD) / 2 ^ t % 2 = 1
def refE (en : List EnT) (t : Nat) : Nat := sumN (fun a => (if xE en a = (t : Int) then 1 else 0) + (if bE en a t then 1 else 0)) en.length
def deadC (en : List EnT) : Nat := sumN (fun t => if endE en (t : Int) = -1 then refE en t else 0) en.length
def deadA (en : List EnT) (a : Nat) : Nat := sumN (fun b => if bE en a b ∧ endE en (b : Int) = -1 then 1 else 0) en.length
def deadM (en : List EnT) : Nat := sumN (fun a => (if xE en a ≠ -1 ∧ endE en (xE en a) = -1 then 1 else 0) + deadA en a) en.length
theorem dead_eq {en : List EnT} (h : okRf en) : deadC en = deadM en := by
  unfold deadC deadM
  rw [sumN_congr (g := fun t => sumN (fun a => (if endE en (t : Int) = -1 then (if xE en a = (t : Int) then 1 else 0) + (if bE en a t then 1 else 0) else 0)) en.length) (fun t _ => by unfold refE; exact sumN_if _ _ _), sumN_swap]
  refine sumN_congr (fun a ha => ?_)
  rw [sumN_congr (g := fun t => (if endE en (t : Int) = -1 ∧ xE en a = (t : Int) then 1 else 0) + (if bE en a t ∧ endE en (t : Int) = -1 then 1 else 0)) (fun t _ => by
    by_cases g : endE en (t : Int) = -1
    · rw [if_pos g]
      congr 1
      · by_cases g2 : xE en a = (t : Int)
        · rw [if_pos g2, if_pos ⟨g, g2⟩]
        · rw [if_neg g2, if_neg (fun g3 => g2 g3.2)]
      · by_cases g2 : bE en a t
        · rw [if_pos g2, if_pos ⟨g2, g⟩]
        · rw [if_neg g2, if_neg (fun g3 => g2 g3.1)]
    · rw [if_neg g, if_neg (fun g3 => g g3.1), if_neg (fun g3 => g g3.2)]), sumN_add]
  congr 1
  have hx := (h _ (en_mem ha)).1
  by_cases g : xE en a = -1
  · rw [if_neg (fun g2 => g2.1 g)]
    exact sumN_none (fun t _ => if_neg (fun g3 => by have := g3.2; omega))
  · obtain ⟨k, hk⟩ : ∃ k : Nat, xE en a = (k : Int) := ⟨(enX (en.getD a enD)).toNat, by have : enX (en.getD a enD) ≠ -1 := g; show enX (en.getD a enD) = _; omega⟩
    have hk2 : enX (en.getD a enD) = (k : Int) := hk
    rw [sumN_one (k := k) (by omega) (fun t _ hne => if_neg (fun g3 => by have := g3.2; omega))]
    by_cases g2 : endE en (k : Int) = -1
    · rw [if_pos ⟨g2, hk⟩, if_pos ⟨g, by rw [hk]; exact g2⟩]
    · rw [if_neg (fun g3 => g2 g3.1), if_neg (fun g3 => g2 (by rw [← hk]; exact g3.2))]
