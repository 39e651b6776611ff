/-! The model's fields and arrays. -/
def mSh2 : List (Nat × Nat) := [(27, 70), (0, 8), (0, 8), (0, 10), (0, 30), (0, 300), (0, 30), (0, 900), (0, 30), (0, 64), (0, 192), (0, 192), (0, 4), (0, 192), (0, 192), (0, 192), (0, 48), (0, 48), (0, 4), (0, 48), (0, 48), (0, 48), (0, 4), (1, 9), (0, 128), (0, 128), (0, 128), (0, 128), (0, 64), (0, 128), (0, 600), (0, 600), (1, 12), (0, 24), (0, 24), (0, 24), (0, 24), (0, 24), (0, 240), (0, 24), (0, 24), (0, 24), (0, 24), (0, 72), (0, 3), (0, 16), (0, 30), (0, 30), (0, 90), (0, 30), (0, 30), (0, 6), (0, 6), (2, 1)]
theorem mSh2_ok : mShp.drop 480 = mSh2 := by decide +kernel
theorem mSh2_get {q : Nat} (hq : 480 ≤ q) : mShp[q]? = mSh2[q - 480]? := by
  rw [← mSh2_ok, List.getElem?_drop, show 480 + (q - 480) = q by omega]
theorem mod_rowC {q : Nat} (hq : 480 < q) (kd nn : Nat) (hk : mSh2[q - 480]? = some (kd, nn)) : rowC q = false := by
  have h0 : (mSh2.all fun p => !(p.1 == 24)) = true := by decide
  have h1 : ∀ p : Nat, 480 ≤ p → mShp[p]? ≠ some (24, 2) := by
    intro p hp e
    rw [mSh2_get hp] at e
    have := List.all_eq_true.mp h0 _ (List.mem_of_getElem? e)
    simp at this
  unfold rowC
  rw [decide_eq_false (h1 q (by omega))]
  cases q with
  | zero => rfl
  | succ p => exact decide_eq_false (h1 p (by omega))
theorem mod_ptr {q : Nat} (hq : 480 < q) (j : Nat) : mPtr q j = none := by
  have h0 : (mPts.all fun p => decide (p.1 ≤ 480)) = true := by decide +kernel
  cases hp : mPtr q j with
  | none => rfl
  | some v =>
    obtain ⟨p, g1, g2⟩ := mPf_mem hp
    have := List.all_eq_true.mp h0 p g1
    simp at this
    omega
theorem isO_480 : isO 480 11 := ⟨by decide, by rw [mSh2_get (Nat.le_refl _)]; rfl⟩
theorem rowC_480 : rowC 480 = false := by decide +kernel
section MOD
variable {Ls N k pc n nn kd b c q w : Nat} {L : mLs} {st r : List mV} {σ : Sg} {post : tP} {x i i' : Int} {e : mE}
theorem tr_mgi {j : Nat} (he : mPg.1 k pc = some (.getfield j, n, 11, b, c)) (hc : c ≠ 1) (hb : b < mnf 11) (h2 : mPtr 480 b = none) (K : Tr Ls N k (pc + n) L (mI (σ.2 480 b) :: r) σ post) : Tr Ls N k pc L (mP (some 480) :: r) σ post :=
  tr_gi he hc isO_480 hb rowC_480 h2 K
theorem tr_mgr {j : Nat} (he : mPg.1 k pc = some (.getfield j, n, 11, b, 1)) (hb : b < mnf 11) (h2 : mPtr 480 b = some w) (K : Tr Ls N k (pc + n) L (mP (some w) :: r) σ post) : Tr Ls N k pc L (mP (some 480) :: r) σ post :=
  tr_gr he isO_480 hb h2 K
theorem tr_mpi {j : Nat} (he : mPg.1 k pc = some (.putfield j, n, 11, b, c)) (hc : c = 0 ∨ (c = 2 ∧ (x = 0 ∨ x = 1))) (hb : b < mnf 11) (h2 : mPtr 480 b = none) (K : Tr Ls N k (pc + n) L r (setF σ 480 b x) post) : Tr Ls N k pc L (mI x :: mP (some 480) :: r) σ post :=
  tr_pi he hc isO_480 hb rowC_480 h2 K
theorem tr_ma {z : Nat} (hz : z + 480 = q) (ex : m32 i = i') (hi : 0 ≤ i' ∧ i' < nn) (he : mPg.1 k pc = some e) (hs : ∀ h, mstep mPg.2.2.2.1 mPg.2.2.2.2 e pc L (mI i :: mP (some q) :: r) h = mrd h kd q i fun y => mnx (pc + n) L (mI y :: r) h) (hq : mSh2[z]? = some (kd, nn)) (hz0 : Nat.blt 0 z = true) (K : Tr Ls N k (pc + n) L (mI (σ.2 q i'.toNat) :: r) σ post) : Tr Ls N k pc L (mI i :: mP (some q) :: r) σ post := by
  subst ex
  have hq1 : 480 < q := by have := Nat.le_of_ble_eq_true hz0; omega
  rw [show z = q - 480 by omega] at hq
  exact tr_ia hi he hs (by rw [mSh2_get (by omega)]; exact hq) (by omega) (mod_rowC hq1 _ _ hq) (mod_ptr hq1) K
theorem tr_ms {z : Nat} (hz : z + 480 = q) (ex : m32 i = i') (hi : 0 ≤ i' ∧ i' < nn) (he : mPg.1 k pc = some e) (hs : ∀ h, mstep mPg.2.2.2.1 mPg.2.2.2.2 e pc L (mI x :: mI i :: mP (some q) :: r) h = mwr h kd q i x fun h' => mnx (pc + n) L r h') (hq : mSh2[z]? = some (kd, nn)) (hz0 : Nat.blt 0 z = true) (K : Tr Ls N k (pc + n) L r (setF σ q i'.toNat x) post) : Tr Ls N k pc L (mI x :: mI i :: mP (some q) :: r) σ post := by
  subst ex
  have hq1 : 480 < q := by have := Nat.le_of_ble_eq_true hz0; omega
  rw [show z = q - 480 by omega] at hq
  exact tr_is hi he hs (by rw [mSh2_get (by omega)]; exact hq) (by omega) (mod_rowC hq1 _ _ hq) (mod_ptr hq1) K
end MOD
