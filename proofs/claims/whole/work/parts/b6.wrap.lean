/-! A call of the class under its guard, then the model's: what is owed of both. -/
/-- the class's call told its number k and what it answers; the model's call from here says the same -/
def jop (Ls kM : Nat) (L : mLs) : tP := fun o σ => ∃ k : Int, o = .inl (some (mI k)) ∧ Tr Ls 0 kM 0 L [] σ (fun o2 σ2 => ∃ b : Int, o2 = .inl (some (mI b)) ∧ σ2.2 480 0 = k ∧ (k = 0 → σ2.2 533 0 = m32 b) ∧ StR σ2)
def jopB (Ls kM : Nat) (L : mLs) : tP := fun o σ => ∃ k : Int, o = .inl (some (mI k)) ∧ Tr Ls 0 kM 0 L [] σ (fun o2 σ2 => ∃ b : Int, o2 = .inl (some (mI b)) ∧ (b = 0 ∨ b = 1) ∧ σ2.2 480 0 = k ∧ (k = 0 → σ2.2 533 0 = b) ∧ StR σ2)
section WRAP
variable {Ls N N1 N2 k pc n n' nn a b c q kd kM X : Nat} {L L0 : mLs} {st r as : List mV} {σ σ' σ1 σ2 : Sg} {post : tP} {x y z v : Int} {e : mE} {R : Nat → Prop} {C : Nat → Nat → Prop} {B M : Int → Int} {ds an ws rs PA PB : List Int} {tx : List (List Int)} {D3 : Nat → TD} {o3 : Nat → Nat → Int} {R3 : Nat → RuT} {hd : Nat → Int} {en : List EnT} {bf : Nat → List Nat} {rd : Nat → List Int} {hh ww : Int}
theorem s_533 : mShp[533]? = some (2, 1) := by rw [mSh2_get (by omega)]; rfl
theorem r_533 : rowC 533 = false := mod_rowC (by omega) 2 1 rfl
theorem tr_ls (he : mPg.1 k pc = some (.lastore, n, a, b, c)) (K : Tr Ls N k (pc + n) L r (setF σ 533 0 x) post) : Tr Ls N k pc L (mJ x :: mI 0 :: mP (some 533) :: r) σ post := by
  refine tr_step he (fun h hr => ⟨_, ?_, rep_setF hr (by omega) r_533 (mod_ptr (by omega) 0) x⟩) K
  simp only [mstep]
  unfold mwr
  rw [rep_sz hr (by omega) s_533]
  dsimp only
  rw [if_pos ⟨by omega, by decide⟩]
  rfl
theorem tr_ll (he : mPg.1 k pc = some (.laload, n, a, b, c)) (K : Tr Ls N k (pc + n) L (mJ (σ.2 533 0) :: r) σ post) : Tr Ls N k pc L (mI 0 :: mP (some 533) :: r) σ post := by
  refine tr_step he (fun h hr => ⟨h, ?_, hr⟩) K
  simp only [mstep, mix]
  unfold mrd
  rw [rep_sz hr (by omega) s_533]
  dsimp only
  rw [if_pos (by decide)]
  have := hr.2.2.2.1 533 0 r_533 (mod_ptr (by omega) 0)
  rw [show (m32 0).toNat = 0 by decide, this]
  rfl
theorem tr_vc1 {j : Nat} (he : mPg.1 k pc = some (.invokevirtual j, 3, a, n, c)) (hq : isO q c) (hst : st[n]? = some (mP (some q))) (hm : mcall a (n + 1) st = some (.inr (.inl (a, as, r)))) (hent : mentry as (mPg.2.2.1 a) = L0) (hk : Tr Ls 1 a 0 L0 [] σ (tK Ls N k pc L r post)) : Tr Ls (N + 1) k pc L st σ post := by
  subst hent
  exact tr_virt (N1 := 1) (N2 := N) he hq hst hm hk (by omega)
theorem tr_stat1 {j : Nat} (he : mPg.1 k pc = some (.invokestatic j, 3, a, n, c)) (hm : mcall a n st = some (.inr (.inl (a, as, r)))) (hent : mentry as (mPg.2.2.1 a) = L0) (hk : Tr Ls 1 a 0 L0 [] σ (tK Ls N k pc L r post)) : Tr Ls (N + 1) k pc L st σ post := by
  subst hent
  exact tr_call (N1 := 1) (N2 := N) he (fun h hr => hm) hk (by omega)
/-- the class has answered -/
theorem ansC (hm0 : mAll σ B M ds an tx D3 o3 R3 hd en bf ws rs rd PA PB hh ww) (hl : tx.length ≤ 30) (he : en.length ≤ 24) (hc : cAll σ' B M ds an tx D3 o3 R3 hd en bf ws rs rd PA PB hh ww) (hk : ∀ q i, 480 ≤ q → σ'.2 q i = σ.2 q i) : cAll (setF σ' 533 0 v) B M ds an tx D3 o3 R3 hd en bf ws rs rd PA PB hh ww ∧ mAll (setF σ' 533 0 v) B M ds an tx D3 o3 R3 hd en bf ws rs rd PA PB hh ww := by
  have ho : only (fun q i => q = 533) σ' (setF σ' 533 0 v) := by
    have k1 : only (fun q i => q = 533) σ' (setF σ' 533 0 v) := only.setF only.rf rfl
    exact k1
  exact ⟨hc.ofm hl he ho (fun q i g => by omega), (mAll.ofc hm0 (fun q i g _ => hk q i g)).of ho (fun q i g => Or.inr (Or.inl g))⟩
/-- the model has answered, and kept -/
theorem ansM (hok : okSt B M ds an tx D3 o3 R3 hd en bf ws rs rd PA PB hh ww) (hc : cAll σ1 B M ds an tx D3 o3 R3 hd en bf ws rs rd PA PB hh ww) (hm : mAll σ1 B M ds an tx D3 o3 R3 hd en bf ws rs rd PA PB hh ww) (ho : only C σ1 σ2) (hC : ∀ q i, C q i → scM q i) : StR σ2 ∧ σ2.2 533 0 = σ1.2 533 0 := by
  have hC2 : ∀ q i, C q i → 480 ≤ q ∧ q ≠ 533 := fun q i g => by
    have := hC q i g
    unfold scM at this
    omega
  refine ⟨⟨B, M, ds, an, tx, D3, o3, R3, hd, en, bf, ws, rs, rd, PA, PB, hh, ww, hok, ?_, hm.of ho (fun q i g => Or.inr (Or.inr (hC q i g)))⟩, ho.2 _ _ (fun g => (hC2 _ _ g).2 rfl)⟩
  exact hc.ofm hok.2.2.2.1.1 hok.2.2.2.2.2.1.1 ho (fun q i g => (hC2 q i g).1)
theorem cCz_sc {q i : Nat} (g : cCz q i) : scM q i := by
  have := cCz_in g
  unfold scM
  omega
theorem only_0 (σ : Sg) (v : Int) : only (fun q i => q = 480 ∧ i = 0) σ (setF σ 480 0 v) := by
  have k1 : only (fun q i => q = 480 ∧ i = 0) σ (setF σ 480 0 v) := only.setF only.rf ⟨rfl, rfl⟩
  exact k1
theorem c0_sc {q i : Nat} (g : q = 480 ∧ i = 0) : scM q i := by
  unfold scM
  omega
/-- an error told by both -/
theorem ansE (hok : okSt B M ds an tx D3 o3 R3 hd en bf ws rs rd PA PB hh ww) (hc : cAll σ B M ds an tx D3 o3 R3 hd en bf ws rs rd PA PB hh ww) (hm : mAll σ B M ds an tx D3 o3 R3 hd en bf ws rs rd PA PB hh ww) (kM : Nat) (j : Int) (hj : j ≠ 0) {b : Int} (ho : only C σ σ2) (hC : ∀ q i, C q i → scM q i) (h0 : σ2.2 480 0 = j) : ∃ b' : Int, (.inl (some (mI b)) : Option mV ⊕ Nat) = .inl (some (mI b')) ∧ σ2.2 480 0 = j ∧ (j = 0 → σ2.2 533 0 = m32 b') ∧ StR σ2 := ⟨b, rfl, h0, fun e => absurd e hj, (ansM hok hc hm ho hC).1⟩
theorem okSt.lens (h : okSt B M ds an tx D3 o3 R3 hd en bf ws rs rd PA PB hh ww) : tx.length ≤ 30 ∧ en.length ≤ 24 := ⟨h.2.2.2.1.1, h.2.2.2.2.2.1.1⟩
theorem okSt.rfs (h : okSt B M ds an tx D3 o3 R3 hd en bf ws rs rd PA PB hh ww) : okRf en := h.2.2.2.2.2.2.2.1
theorem okSt.lcs (h : okSt B M ds an tx D3 o3 R3 hd en bf ws rs rd PA PB hh ww) : ∀ e ∈ en, okLoc (enL e) (enM e) := h.2.2.2.2.2.2.1
theorem okSt.cos (h : okSt B M ds an tx D3 o3 R3 hd en bf ws rs rd PA PB hh ww) : okCo tx.length ws rs rd := h.2.2.2.2.2.2.2.2.2.1
theorem okSt.bfs (h : okSt B M ds an tx D3 o3 R3 hd en bf ws rs rd PA PB hh ww) : ∀ X, X < 3 → (bf X).length ≤ (ordE tx en (D3 X) (o3 X) X).length ∧ ∀ e ∈ bf X, e < 24 := h.2.2.2.2.2.2.2.2.1
theorem okSt.pns (h : okSt B M ds an tx D3 o3 R3 hd en bf ws rs rd PA PB hh ww) : okPins PA PB := h.2.2.2.2.2.2.2.2.2.2.1
theorem okSt.hws (h : okSt B M ds an tx D3 o3 R3 hd en bf ws rs rd PA PB hh ww) : (4 ≤ hh ∧ hh ≤ 40) ∧ 4 ≤ ww ∧ ww ≤ 40 := h.2.2.2.2.2.2.2.2.2.2.2
theorem okSt.ens (h : okSt B M ds an tx D3 o3 R3 hd en bf ws rs rd PA PB hh ww) : okEn tx en := h.2.2.2.2.2.1
theorem okSt.rus (h : okSt B M ds an tx D3 o3 R3 hd en bf ws rs rd PA PB hh ww) : ∀ X, X < 3 → okRu (D3 X) (R3 X) := h.2.2.2.2.1
end WRAP
