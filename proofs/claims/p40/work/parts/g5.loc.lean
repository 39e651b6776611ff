/-! Groups of locators in order; the law's isLocated. -/
def rkL (s : Int) : Int := if s = 1 then 0 else if s = 2 then 2 else 1
def gch : Int → Int → List Gp → Prop
  | _, _, [] => True
  | r, p, g :: gs => (r < rkL g.1 ∨ (r = rkL g.1 ∧ p < g.2.1)) ∧ ((0 ≤ g.1 ∧ g.1 ≤ 3) ∧ 1 ≤ g.2.1 ∧ g.2.1 ≤ g.2.2 ∧ g.2.2 ≤ 999) ∧ gch (rkL g.1) g.2.2 gs
abbrev okg (g : Gp) : Prop := (0 ≤ g.1 ∧ g.1 ≤ 2) ∧ 1 ≤ g.2.1 ∧ g.2.1 ≤ g.2.2 ∧ g.2.2 ≤ 999
abbrev ltG (q g : Gp) : Prop := rkL q.1 < rkL g.1 ∨ (rkL q.1 = rkL g.1 ∧ q.2.2 < g.2.1)
/-- told backwards -/
def rch : List Gp → Prop
  | [] => True
  | g :: r => okg g ∧ (∀ q, r.head? = some q → ltG q g) ∧ rch r
section LOC
variable {Ls N k pc n a b d X j : Nat} {σ σ' σ0 σ1 σ2 : Sg} {post : tP} {i x y z v w s c rr pp : Int} {B M : Int → Int} {ds an dA t A A2 : List Int} {ws rs PA PB : List Int} {tx : List (List Int)} {D3 : Nat → TD} {o3 : Nat → Nat → Int} {R3 : Nat → RuT} {hd : Nat → Int} {en : List EnT} {bf : Nat → List Nat} {rd : Nat → List Int} {hh ww : Int} {v3 v4 v5 v6 v7 v8 v9 v10 : Option mV} {rg gs l acc : List Gp} {g : Gp} {LL MM : List Int}
theorem rkL_in (s : Int) : 0 ≤ rkL s ∧ rkL s ≤ 2 := by
  unfold rkL
  split
  · omega
  · split <;> omega
theorem rkL_rk (h : 0 ≤ x ∧ x ≤ 2) : rkL (rk x) = x ∧ 0 ≤ rk x ∧ rk x ≤ 2 := by
  rcases (show x = 0 ∨ x = 1 ∨ x = 2 by omega) with e | e | e <;> subst e <;> decide
theorem rch_add (hc : okLc c) (h : rch rg) (hb : ∀ q, rg.head? = some q → 1000 * rkL q.1 + q.2.2 < c) : rch (addR rg c) ∧ ∀ q, (addR rg c).head? = some q → 1000 * rkL q.1 + q.2.2 = c := by
  obtain ⟨k1, k2, k3⟩ := rkL_rk (x := c / 1000) (by omega)
  match rg, h, hb with
  | [], h, hb =>
    refine ⟨⟨⟨⟨k2, k3⟩, by show 1 ≤ c % 1000 ∧ c % 1000 ≤ c % 1000 ∧ c % 1000 ≤ 999; omega⟩, fun q hq => (by cases hq), trivial⟩, fun q hq => ?_⟩
    cases hq
    show 1000 * rkL (rk (c / 1000)) + c % 1000 = c
    omega
  | (s, f, l) :: r, h, hb =>
    obtain ⟨⟨h1, h2, h3, h4⟩, h5, h6⟩ := h
    have hb2 := hb _ rfl
    dsimp only at h1 h2 h3 h4 hb2
    unfold addR
    by_cases e : s = rk (c / 1000) ∧ l + 1 = c % 1000
    · dsimp only
      rw [if_pos e]
      refine ⟨⟨⟨h1, h2, by show f ≤ c % 1000; omega, by show c % 1000 ≤ 999; omega⟩, h5, h6⟩, fun q hq => ?_⟩
      cases hq
      show 1000 * rkL s + c % 1000 = c
      rw [e.1]
      omega
    · dsimp only
      rw [if_neg e]
      refine ⟨⟨⟨⟨k2, k3⟩, by show 1 ≤ c % 1000 ∧ c % 1000 ≤ c % 1000 ∧ c % 1000 ≤ 999; omega⟩, fun q hq => ?_, ⟨h1, h2, h3, h4⟩, h5, h6⟩, fun q hq => ?_⟩
      · cases hq
        show rkL s < rkL (rk (c / 1000)) ∨ (rkL s = rkL (rk (c / 1000)) ∧ l < c % 1000)
        omega
      · cases hq
        show 1000 * rkL (rk (c / 1000)) + c % 1000 = c
        omega
theorem rch_fold : ∀ (L : List Int) (rg : List Gp), L.Pairwise (fun a b => a < b) → (∀ c ∈ L, okLc c) → rch rg → (∀ q, rg.head? = some q → ∀ c ∈ L, 1000 * rkL q.1 + q.2.2 < c) → rch (L.foldl addR rg) := by
  intro L
  induction L with
  | nil => intro rg _ _ h _; exact h
  | cons c L ih =>
    intro rg hp ho h hb
    obtain ⟨p1, p2⟩ := List.pairwise_cons.mp hp
    obtain ⟨k1, k2⟩ := rch_add (ho c List.mem_cons_self) h (fun q hq => hb q hq c List.mem_cons_self)
    refine ih _ p2 (fun c hc => ho c (List.mem_cons_of_mem _ hc)) k1 (fun q hq c' hc' => ?_)
    rw [k2 q hq]
    exact p1 c' hc'
def bndR (rg : List Gp) : Int × Int := match rg with
  | [] => (-1, 0)
  | g :: _ => (rkL g.1, g.2.2)
theorem gch_rev : ∀ (rg acc : List Gp), rch rg → gch (bndR rg).1 (bndR rg).2 acc → gch (-1) 0 (rg.reverse ++ acc) := by
  intro rg
  induction rg with
  | nil => intro acc _ h; exact h
  | cons g r ih =>
    intro acc h ha
    obtain ⟨⟨h1, h2, h3, h4⟩, h5, h6⟩ := h
    rw [List.reverse_cons, List.append_assoc]
    refine ih _ h6 ⟨?_, ⟨⟨h1.1, by omega⟩, h2, h3, h4⟩, ha⟩
    match r, h5 with
    | [], _ =>
      left
      show (-1 : Int) < rkL g.1
      have := (rkL_in g.1).1
      omega
    | q :: r, h5 => exact h5 q rfl
theorem gch_cnt (w : Int) : ∀ (l : List Gp) (r p : Int), gch r p l → 1 ≤ cntP w l → (l.headD (0, 0, 0)).1 = 0 ∧ (l.headD (0, 0, 0)).2.1 ≤ (l.getD (cntP w l - 1) (0, 0, 0)).2.2 ∧ (l.getD (cntP w l - 1) (0, 0, 0)).2.2 ≤ 999 ∧ gch 1 (l.getD (cntP w l - 1) (0, 0, 0)).2.2 (l.drop (cntP w l)) := by
  intro l
  induction l with
  | nil =>
    intro r p _ hc
    exact absurd hc (by show ¬ 1 ≤ 0; omega)
  | cons g gs ih =>
    intro r p h hc
    obtain ⟨h1, ⟨h2, h3, h4, h5⟩, h6⟩ := h
    unfold cntP at hc ⊢
    by_cases e : g.1 = 0 ∧ g.2.1 ≤ w
    · rw [if_pos e] at hc ⊢
      have e1 : rkL g.1 = 1 := by
        rw [e.1]
        rfl
      rw [e1] at h6
      rw [Nat.add_sub_cancel, List.drop_succ_cons]
      by_cases c0 : 1 ≤ cntP w gs
      · obtain ⟨g1, g2, g3, g4⟩ := ih 1 g.2.2 h6 c0
        have e2 : (g :: gs).getD (cntP w gs) (0, 0, 0) = gs.getD (cntP w gs - 1) (0, 0, 0) := by
          rw [show cntP w gs = cntP w gs - 1 + 1 by omega]
          rfl
        rw [e2]
        refine ⟨e.1, ?_, g3, g4⟩
        show g.2.1 ≤ _
        have h7 : g.2.2 < (gs.headD (0, 0, 0)).2.1 := by
          match gs, h6, g1 with
          | [], h6, g1 => simp [cntP] at c0
          | q :: qs, h6, g1 =>
            have g1' : q.1 = 0 := g1
            have e3 : rkL q.1 = 1 := by
              rw [g1']
              rfl
            rcases h6.1 with h8 | h8
            · rw [e3] at h8
              exact absurd h8 (by decide)
            · exact h8.2
        omega
      · have e2 : cntP w gs = 0 := by omega
        rw [e2]
        exact ⟨e.1, h4, h5, h6⟩
    · rw [if_neg e] at hc
      omega
theorem gch_jn1 : ∀ (l : List Gp) (r p : Int), gch r p l → gch r p (jn1 l) := by
  intro l r p h
  match l, h with
  | [], h => exact h
  | g :: gs, h =>
    by_cases c : 4 ≤ cntP (g.2.1 + 9) (g :: gs)
    · rw [jn1_pos c]
      obtain ⟨g1, g2, g3, g4⟩ := gch_cnt (g.2.1 + 9) (g :: gs) r p h (by omega)
      obtain ⟨h1, ⟨h2, h3, h4, h5⟩, h6⟩ := h
      have g1' : g.1 = 0 := g1
      have e1 : rkL g.1 = 1 := by
        rw [g1']
        rfl
      rw [e1] at h1
      refine ⟨h1, ⟨⟨by show (0 : Int) ≤ 3; decide, by show (3 : Int) ≤ 3; decide⟩, h3, g2, g3⟩, ?_⟩
      rw [show cntP (g.2.1 + 9) (g :: gs) = cntP (g.2.1 + 9) (g :: gs) - 1 + 1 by omega, List.drop_succ_cons] at g4
      exact g4
    · rw [jn1_neg c]
      exact h
theorem gch_jnA : ∀ (d : Nat) (l : List Gp) (r p : Int), gch r p l → gch r p (jnA d l) := by
  intro d
  induction d with
  | zero => intro l r p h; exact h
  | succ d ih =>
    intro l r p h
    have h1 := gch_jn1 l r p h
    cases e : jn1 l with
    | nil =>
      unfold jnA
      rw [e]
      trivial
    | cons g gs =>
      rw [jnA_cons e]
      rw [e] at h1
      exact ⟨h1.1, h1.2.1, ih gs _ _ h1.2.2⟩
theorem gch_grp (h : okLoc LL MM) : gch (-1) 0 (grpL LL) := by
  unfold grpL
  refine gch_jnA _ _ _ _ ?_
  have h1 := rch_fold LL [] h.1 h.2.1 trivial (fun q hq => by cases hq)
  have h2 := gch_rev (LL.foldl addR []) [] h1 trivial
  rw [List.append_nil] at h2
  exact h2
end LOC
