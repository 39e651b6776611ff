/-! The law's loop: what holds at its head; what is asked behind each deed. -/
def LI (σ : Sg) (p q w : Nat) : Prop := ∃ (B M : Int → Int) (ds an : List Int) (tx : List (List Int)) (D3 : Nat → TD) (o3 : Nat → Nat → Int) (R3 : Nat → RuT) (hd : Nat → Int) (en : List EnT) (bf : Nat → List Nat) (ws rs : List Int) (rd : Nat → List Int) (PA PB : List Int) (hh ww : Int), StC σ B M ds an tx D3 o3 R3 hd en bf ws rs rd PA PB hh ww ∧ (ds = [] ∧ (∀ i, rd i = []) ∧ (∀ r ∈ rs, r = -1) ∧ (∀ t ∈ tx, okT t) ∧ lawA σ en ∧ en.length ≤ 12 ∧ ws.length ≤ 10) ∧ tx.length = p ∧ en.length = q ∧ ws.length = w
/-- the law's locals -/
abbrev lwV (p q w tn tu : Nat) (v11 v12 v13 v14 v15 v16 v17 v18 v19 v20 : Option mV) : mLs := [some (mP (some 0)), some (mP (some 2)), some (mP (some 480)), some (mP (some 481)), some (mP (some 482)), some (mI (p : Int)), some (mI (q : Int)), some (mI (w : Int)), some (mI 1), some (mI (tn : Int)), some (mI (tu : Int)), v11, v12, v13, v14, v15, v16, v17, v18, v19, v20]
section TAIL
variable {Ls N N1 k pc n a b c d p q w tn tu Y t e X j : Nat} {L : mLs} {r : List mV} {σ σ' σ0 σ1 σ2 : Sg} {post : tP} {i x y z v : Int} {B M : Int → Int} {ds an dA A A2 : List Int} {ws rs PA PB : List Int} {tx : List (List Int)} {D3 : Nat → TD} {o3 : Nat → Nat → Int} {R3 : Nat → RuT} {hd : Nat → Int} {en : List EnT} {bf : Nat → List Nat} {rd : Nat → List Int} {hh ww : Int} {v11 v12 v13 v14 v15 v16 v17 v18 v19 v20 : Option mV}
/-- a line of a lemma, or none -/
theorem p_8v (h : StC σ B M ds an tx D3 o3 R3 hd en bf ws rs rd PA PB hh ww) (ha : a < tx.length) (hy : y = 0 ∨ y = 1) (hj : in32 (j : Int)) (hl : j < (lnsL ws rs rd (a : Int)).length) (K : ∀ σ' (m : Nat), m < 30 → StC σ' B M ds an tx D3 o3 R3 hd en bf ws rs rd PA PB hh ww → kp4 σ σ' → post (.inl (some (mI (m : Int)))) σ') : Tr Ls N 332 0 [some (mP (some 2)), some (mI 8), some (mI (a : Int)), some (mI y), some (mI (j : Int)), none] [] σ post := by
  refine s_on0 ?_
  have key : ∀ v : Int, v = y → Tr Ls 0 331 165 [some (mP (some 2)), some (mI 8), some (mI (a : Int)), some (mI y), some (mI (j : Int))] [mI (j : Int), mI v, mI (a : Int), mP (some 2)] σ (onP post) := by
    intro v hv
    subst hv
    refine tr_vc (q := 2) rfl ⟨by decide, by decide +kernel⟩ rfl rfl rfl (tr_nox (M := 1) (by decide) (q_164 (N := 0) h ha hy hj (fun g => absurd hl g) (fun σ' m g0 g1 h' k' => ⟨⟨_, rfl⟩, ?_⟩)))
    repeat (refine tr_mv rfl (fun _ => rfl) ?_)
    exact tr_ri rfl rfl ⟨_, rfl, K σ' m g0 h' k'⟩
  rcases hy with g | g
  · rw [g] at key ⊢
    repeat (refine tr_mv rfl (fun _ => rfl) ?_)
    exact key 0 rfl
  · rw [g] at key ⊢
    repeat (refine tr_mv rfl (fun _ => rfl) ?_)
    exact key 1 rfl
/-- goes on at the loop's head -/
abbrev hdK (Ls N p q w tn tu : Nat) (post : tP) : Prop := ∀ (σ' : Sg) (v11 v12 v13 v14 v15 v16 v17 v18 v19 v20 : Option mV), LI σ' p q w → Tr Ls N 364 89 (lwV p q w tn (tu + 1) v11 v12 v13 v14 v15 v16 v17 v18 v19 v20) [] σ' post
set_option maxRecDepth 8000 in
/-- the lines of one lemma -/
theorem law_ln (hls : ∀ r ∈ rs, r = -1) (ha : a < tx.length) (h30 : ws.length ≤ 30) (hY : Y < 2 ^ 28)
    (K : ∀ σ', StC σ' B M ds an tx D3 o3 R3 hd en bf ws rs rd PA PB hh ww → kp4 σ0 σ' → Tr Ls N 364 1788 (lwV p q w tn tu v11 (some (mI (Y : Int))) v13 v14 (some (mI (e : Int))) (some (mI (c : Int))) (some (mI (a : Int))) (some (mI ((lnsL ws rs rd (a : Int)).length : Int))) v19 v20) [] σ' post) :
    ∀ (m j : Nat) (σ : Sg), StC σ B M ds an tx D3 o3 R3 hd en bf ws rs rd PA PB hh ww → kp4 σ0 σ → m + j = (lnsL ws rs rd (a : Int)).length → (lnsL ws rs rd (a : Int)).length ≤ 30 →
    Tr Ls (N + 1) 364 1765 (lwV p q w tn tu v11 (some (mI (Y : Int))) v13 v14 (some (mI (e : Int))) (some (mI (c : Int))) (some (mI (a : Int))) (some (mI (j : Int))) v19 v20) [] σ post := by
  intro m
  induction m with
  | zero =>
    intro j σ h hk hj hl
    iterate 5 (refine tr_mv rfl (fun _ => rfl) ?_)
    refine tr_and1 (a := Y) (by omega) rfl ?_
    iterate 1 (refine tr_mv rfl (fun _ => rfl) ?_)
    refine tr_stat1 rfl rfl rfl (p_8 (N := 0) h ha (by omega) (by omega) (fun g => ?_) (fun σ' m g0 g => by omega))
    iterate 1 (refine tr_mv rfl (fun _ => rfl) ?_)
    rw [show j = (lnsL ws rs rd (a : Int)).length by omega]
    exact K σ h hk
  | succ m ih =>
    intro j σ h hk hj hl
    iterate 5 (refine tr_mv rfl (fun _ => rfl) ?_)
    refine tr_and1 (a := Y) (by omega) rfl ?_
    iterate 1 (refine tr_mv rfl (fun _ => rfl) ?_)
    refine tr_stat rfl rfl rfl (p_8v h ha (by omega) (by omega) (by omega) (fun σ' m' g0 h' k' => ?_))
    refine tr_if2 rfl (m32_of (by omega)) (fun c1 => ?_) (fun c1 => ?_)
    · exfalso
      omega
    iterate 2 (refine tr_mv rfl (fun _ => rfl) ?_)
    have := ih (j + 1) σ' h' (hk.tr k') (by omega) hl
    rw [show ((j + 1 : Nat) : Int) = (j : Int) + 1 by omega] at this
    exact this
set_option maxRecDepth 8000 in
/-- what the law keeps of its words -/
theorem law_ws (hls : ∀ r ∈ rs, r = -1) (hrd : ∀ i, rd i = []) (hw : ws.length = w) (hp : tx.length = p) (h10 : ws.length ≤ 10) (hco : okCo tx.length ws rs rd) (hY : Y < 2 ^ 28)
    (K : ∀ (σ' : Sg) (v16 v17 v18 : Option mV), StC σ' B M ds an tx D3 o3 R3 hd en bf ws rs rd PA PB hh ww → kp4 σ0 σ' → Tr Ls N 364 1815 (lwV p q w tn tu v11 (some (mI (Y : Int))) v13 v14 (some (mI (e : Int))) v16 v17 v18 v19 v20) [] σ' post) :
    ∀ (m a : Nat) (σ : Sg) (v18 : Option mV), StC σ B M ds an tx D3 o3 R3 hd en bf ws rs rd PA PB hh ww → kp4 σ0 σ → m + a = p →
    Tr Ls (N + m) 364 1750 (lwV p q w tn tu v11 (some (mI (Y : Int))) v13 v14 (some (mI (e : Int))) (some (mI (cntW ws a : Int))) (some (mI (a : Int))) v18 v19 v20) [] σ post := by
  have hp30 := hco.1
  have hcl : ∀ a, cntW ws a ≤ ws.length := fun a => List.length_filter_le _ _
  intro m
  induction m with
  | zero =>
    intro a σ v18 h hk ha
    have e : a = p := by omega
    subst e
    have hT30 : tx.length ≤ 30 := h.1.2.2.2.1.1
    iterate 2 (refine tr_mv rfl (fun _ => rfl) ?_)
    refine tr_cmp2 rfl (m32_of (by omega)) (m32_of (by omega)) (fun c1 => ?_) (fun c1 => ?_)
    · have e2 := cntW_all (ws := ws) (n := a) (fun x hx => by rw [← hp]; exact hco.2.2.1 x hx)
      rw [e2, hw]
      iterate 2 (refine tr_mv rfl (fun _ => rfl) ?_)
      refine tr_cmp2 rfl (m32_of (by omega)) (m32_of (by omega)) (fun c2 => ?_) (fun c2 => ?_)
      · exfalso
        omega
      iterate 3 (refine tr_mv rfl (fun _ => rfl) ?_)
      exact K σ _ _ _ h hk
    · exfalso
      omega
  | succ m ih =>
    intro a σ v18 h hk ha
    have hT30 : tx.length ≤ 30 := h.1.2.2.2.1.1
    have hll := lns_len (rs := rs) (rd := rd) hco.2.1 hls hrd (a : Int)
    have hsc := cntW_succ ws a
    rw [← hll] at hsc
    have hle := hcl (a + 1)
    iterate 2 (refine tr_mv rfl (fun _ => rfl) ?_)
    refine tr_cmp2 rfl (m32_of (by omega)) (m32_of (by omega)) (fun c1 => ?_) (fun c1 => ?_)
    · exfalso
      omega
    iterate 4 (refine tr_mv rfl (fun _ => rfl) ?_)
    rw [show N + (m + 1) = (N + m) + 1 by omega]
    refine law_ln (w := w) hls (show a < tx.length by omega) (by omega) hY (fun σ' h' k' => ?_) _ 0 σ h hk (Nat.add_zero _) (by omega)
    iterate 6 (refine tr_mv rfl (fun _ => rfl) ?_)
    have := ih (a + 1) σ' (some (mI ((lnsL ws rs rd (a : Int)).length : Int))) h' k' (by omega)
    rw [hsc, show ((a + 1 : Nat) : Int) = (a : Int) + 1 by omega, show ((cntW ws a + (lnsL ws rs rd (a : Int)).length : Nat) : Int) = (cntW ws a : Int) + ((lnsL ws rs rd (a : Int)).length : Int) by omega] at this
    exact this
end TAIL
