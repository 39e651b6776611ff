/-! The class Tailoring: its places; weights; its small methods. -/
def isT (t : Nat) : Prop := t = 12 ∨ t = 273 ∨ t = 302 ∨ t = 331
theorem T_O {t : Nat} (h : isT t) : isO t 9 := by
  rcases h with rfl | rfl | rfl | rfl <;> exact ⟨by decide, by decide +kernel⟩
theorem T_p0 {t : Nat} (h : isT t) : mPtr t 0 = some (t + 1) := by
  rcases h with rfl | rfl | rfl | rfl <;> decide +kernel
theorem T_r0 {t : Nat} (h : isT t) : isRow (t + 1) 48 := by
  rcases h with rfl | rfl | rfl | rfl <;> exact ⟨by decide, by decide +kernel, by decide +kernel⟩
theorem T_p1 {t : Nat} (h : isT t) : mPtr t 1 = some (t + 3) := by
  rcases h with rfl | rfl | rfl | rfl <;> decide +kernel
theorem T_r1 {t : Nat} (h : isT t) : isRow (t + 3) 48 := by
  rcases h with rfl | rfl | rfl | rfl <;> exact ⟨by decide, by decide +kernel, by decide +kernel⟩
theorem T_p2 {t : Nat} (h : isT t) : mPtr t 2 = some (t + 5) := by
  rcases h with rfl | rfl | rfl | rfl <;> decide +kernel
theorem T_r2 {t : Nat} (h : isT t) : isRow (t + 5) 48 := by
  rcases h with rfl | rfl | rfl | rfl <;> exact ⟨by decide, by decide +kernel, by decide +kernel⟩
theorem T_p3 {t : Nat} (h : isT t) : mPtr t 3 = some (t + 7) := by
  rcases h with rfl | rfl | rfl | rfl <;> decide +kernel
theorem T_r3 {t : Nat} (h : isT t) : isRow (t + 7) 48 := by
  rcases h with rfl | rfl | rfl | rfl <;> exact ⟨by decide, by decide +kernel, by decide +kernel⟩
theorem T_p4 {t : Nat} (h : isT t) : mPtr t 4 = some (t + 9) := by
  rcases h with rfl | rfl | rfl | rfl <;> decide +kernel
theorem T_r4 {t : Nat} (h : isT t) : isRow (t + 9) 48 := by
  rcases h with rfl | rfl | rfl | rfl <;> exact ⟨by decide, by decide +kernel, by decide +kernel⟩
theorem T_p5 {t : Nat} (h : isT t) : mPtr t 5 = some (t + 11) := by
  rcases h with rfl | rfl | rfl | rfl <;> decide +kernel
theorem T_r5 {t : Nat} (h : isT t) : isRow (t + 11) 12 := by
  rcases h with rfl | rfl | rfl | rfl <;> exact ⟨by decide, by decide +kernel, by decide +kernel⟩
theorem T_p6 {t : Nat} (h : isT t) : mPtr t 6 = some (t + 13) := by
  rcases h with rfl | rfl | rfl | rfl <;> decide +kernel
theorem T_r6 {t : Nat} (h : isT t) : isRow (t + 13) 12 := by
  rcases h with rfl | rfl | rfl | rfl <;> exact ⟨by decide, by decide +kernel, by decide +kernel⟩
theorem T_p7 {t : Nat} (h : isT t) : mPtr t 7 = some (t + 15) := by
  rcases h with rfl | rfl | rfl | rfl <;> decide +kernel
theorem T_r7 {t : Nat} (h : isT t) : isRow (t + 15) 12 := by
  rcases h with rfl | rfl | rfl | rfl <;> exact ⟨by decide, by decide +kernel, by decide +kernel⟩
theorem T_p8 {t : Nat} (h : isT t) : mPtr t 8 = some (t + 17) := by
  rcases h with rfl | rfl | rfl | rfl <;> decide +kernel
theorem T_r8 {t : Nat} (h : isT t) : isRow (t + 17) 12 := by
  rcases h with rfl | rfl | rfl | rfl <;> exact ⟨by decide, by decide +kernel, by decide +kernel⟩
theorem T_p9 {t : Nat} (h : isT t) : mPtr t 9 = some (t + 19) := by
  rcases h with rfl | rfl | rfl | rfl <;> decide +kernel
theorem T_r9 {t : Nat} (h : isT t) : isRow (t + 19) 12 := by
  rcases h with rfl | rfl | rfl | rfl <;> exact ⟨by decide, by decide +kernel, by decide +kernel⟩
theorem T_p10 {t : Nat} (h : isT t) : mPtr t 10 = some (t + 21) := by
  rcases h with rfl | rfl | rfl | rfl <;> decide +kernel
theorem T_opt {t : Nat} (h : isT t) : mShp[t + 21]? = some (1, 3) := by
  rcases h with rfl | rfl | rfl | rfl <;> decide +kernel
theorem T_optC {t : Nat} (h : isT t) : rowC (t + 21) = false := by
  rcases h with rfl | rfl | rfl | rfl <;> decide +kernel
theorem mPtr_arr {q kd n : Nat} (hq : mShp[q]? = some (kd, n)) (hk : kd < 3) (j : Nat) : mPtr q j = none := by
  cases hp : mPtr q j with
  | none => rfl
  | some v =>
    exfalso
    obtain ⟨p, g1, g2⟩ := mPf_mem hp
    have h0 : mPts.all (fun q => match mShp[q.1]? with
      | some p => !(Nat.blt p.1 3)
      | none => false) = true := by decide +kernel
    have h1 := List.all_eq_true.mp h0 p g1
    rw [g2, hq] at h1
    have h2 : Nat.blt kd 3 = true := Nat.ble_eq_true_of_le hk
    simp [h2] at h1
def onlyR (R : Nat → Prop) (σ σ' : Sg) : Prop := σ'.2 = σ.2 ∧ ∀ a, ¬ R a → σ'.1 a = σ.1 a
def w1 : Int → List Int → List Int
  | _, [] => []
  | f, l :: ls => (if l = 1 then f + 1 else f) :: w1 (if l = 1 then f + 1 else f) ls
def w2 : Int → List Int → List Int
  | _, [] => []
  | s, l :: ls => (if l = 1 then 1 else if l = 2 then s + 1 else s) :: w2 (if l = 1 then 1 else if l = 2 then s + 1 else s) ls
def w3 : Int → List Int → List Int
  | _, [] => []
  | s, l :: ls => (if l ≤ 2 then 1 else if l = 3 then s + 1 else s) :: w3 (if l ≤ 2 then 1 else if l = 3 then s + 1 else s) ls
section TAIL
variable {Ls N N1 N2 k pc n n' nn b c t a q : Nat} {L L0 : mLs} {st r as : List mV} {h h' : mH} {σ σ' σ'' : Sg} {post : tP} {x y z x' y' i i' s v m w : Int} {xs ys : List Int} {e : mE} {C : Nat → Nat → Prop} {B M : Int → Int} {R : Nat → Prop}
theorem onlyR.rf : onlyR R σ σ := ⟨rfl, fun _ _ => rfl⟩
theorem onlyR.tr (h1 : onlyR R σ σ') (h2 : onlyR R σ' σ'') : onlyR R σ σ'' := ⟨h2.1.trans h1.1, fun a ha => (h2.2 a ha).trans (h1.2 a ha)⟩
theorem onlyR.setR (h1 : onlyR R σ σ') (ha : R a) : onlyR R σ (setR σ' a xs) := ⟨h1.1, fun b hb => (setR_ne _ _ (fun e => hb (by rw [e]; exact ha))).trans (h1.2 b hb)⟩
theorem onlyR.wk {R' : Nat → Prop} (h1 : onlyR R σ σ') (hr : ∀ a, R a → R' a) : onlyR R' σ σ' := ⟨h1.1, fun a ha => h1.2 a (fun g => ha (hr a g))⟩
theorem s_110 (ht : isT t) (K : post (.inl (some (mI (σ.1 (t + 1)).length))) σ) : Tr Ls N 110 0 [some (mP (some t))] [] σ post := by
  iterate 1 (refine tr_mv rfl (fun _ => rfl) ?_)
  refine tr_gr rfl (T_O ht) (by decide) (T_p0 ht) ?_
  refine tr_size (T_r0 ht) rfl rfl ?_
  exact tr_ri rfl rfl K
theorem s_111 (ht : isT t) (K : post (.inl (some (mI (σ.1 (t + 15)).length))) σ) : Tr Ls N 111 0 [some (mP (some t))] [] σ post := by
  iterate 1 (refine tr_mv rfl (fun _ => rfl) ?_)
  refine tr_gr rfl (T_O ht) (by decide) (T_p7 ht) ?_
  refine tr_size (T_r7 ht) rfl rfl ?_
  exact tr_ri rfl rfl K
theorem s_112 (ht : isT t) (hx : in32 x) (K : post (.inl (some (mI (1000000 * rget (σ.1 (t + 3)) x + rget (σ.1 (t + 1)) x)))) σ) : Tr Ls N 112 0 [some (mP (some t)), some (mI x)] [] σ post := by
  iterate 2 (refine tr_mv rfl (fun _ => rfl) ?_)
  refine tr_gr rfl (T_O ht) (by decide) (T_p1 ht) ?_
  iterate 1 (refine tr_mv rfl (fun _ => rfl) ?_)
  refine tr_at2 (T_r1 ht) (m32_of hx) rfl rfl ?_
  iterate 2 (refine tr_mv rfl (fun _ => rfl) ?_)
  refine tr_gr rfl (T_O ht) (by decide) (T_p0 ht) ?_
  iterate 1 (refine tr_mv rfl (fun _ => rfl) ?_)
  refine tr_at2 (T_r0 ht) (m32_of hx) rfl rfl ?_
  iterate 1 (refine tr_mv rfl (fun _ => rfl) ?_)
  exact tr_ri rfl rfl K
theorem rplace_in (ha : isRow a n) (hr : rep Ls h σ) (x : Int) : (rplace (σ.1 a) x = -1 ∧ x ∉ σ.1 a) ∨ (0 ≤ rplace (σ.1 a) x ∧ rplace (σ.1 a) x < (σ.1 a).length ∧ x ∈ σ.1 a) := by
  unfold rplace
  cases hf : (σ.1 a).findIdx? (fun y => decide (y = x)) with
  | none =>
    refine Or.inl ⟨rfl, fun hm => ?_⟩
    have := List.findIdx?_eq_none_iff.mp hf x hm
    simp at this
  | some j =>
    obtain ⟨g1, g2, -⟩ := List.findIdx?_eq_some_iff_getElem.mp hf
    refine Or.inr ⟨Int.natCast_nonneg _, by show (j : Int) < _; omega, ?_⟩
    have : (σ.1 a)[j] = x := by simpa using g2
    rw [← this]
    exact List.getElem_mem _
theorem s_113 (ht : isT t) (hx : in32 x) (K : post (.inl (some (mI (b2 (x ∈ σ.1 (t + 1) ∨ x ∈ σ.1 (t + 11)))))) σ) : Tr Ls N 113 0 [some (mP (some t)), some (mI x)] [] σ post := by
  refine tr_fact fun ⟨h0, hr⟩ => ?_
  have h1 := rplace_in (T_r0 ht) hr x
  have h2 := rplace_in (T_r5 ht) hr x
  have l1 := rep_len hr (T_r0 ht)
  have l2 := rep_len hr (T_r5 ht)
  iterate 1 (refine tr_mv rfl (fun _ => rfl) ?_)
  refine tr_gr rfl (T_O ht) (by decide) (T_p0 ht) ?_
  iterate 1 (refine tr_mv rfl (fun _ => rfl) ?_)
  refine tr_placeOf (T_r0 ht) hx rfl rfl ?_
  iterate 1 (refine tr_mv rfl (fun _ => rfl) ?_)
  refine tr_cmp2 rfl (m32_of (by omega)) (m32_of (x := -1) ⟨by decide, by decide⟩) (fun c1 => ?_) (fun c1 => ?_)
  · iterate 2 (refine tr_mv rfl (fun _ => rfl) ?_)
    rcases h1 with g | g
    · exact absurd g.1 c1
    · exact tr_rb1 rfl (Or.inl g.2.2) K
  · have g1 : x ∉ σ.1 (t + 1) := by
      rcases h1 with g | g
      · exact g.2
      · exact absurd (show rplace (σ.1 (t + 1)) x ≠ -1 by omega) c1
    iterate 1 (refine tr_mv rfl (fun _ => rfl) ?_)
    refine tr_gr rfl (T_O ht) (by decide) (T_p5 ht) ?_
    iterate 1 (refine tr_mv rfl (fun _ => rfl) ?_)
    refine tr_placeOf (T_r5 ht) hx rfl rfl ?_
    iterate 1 (refine tr_mv rfl (fun _ => rfl) ?_)
    refine tr_cmp2 rfl (m32_of (by omega)) (m32_of (x := -1) ⟨by decide, by decide⟩) (fun c2 => ?_) (fun c2 => ?_)
    · iterate 1 (refine tr_mv rfl (fun _ => rfl) ?_)
      rcases h2 with g | g
      · exact tr_rb0 rfl (fun g3 => by rcases g3 with g3 | g3; exact g1 g3; exact g.2 g3) K
      · exact absurd c2 (by show ¬ _ = (-1 : Int); omega)
    · iterate 2 (refine tr_mv rfl (fun _ => rfl) ?_)
      rcases h2 with g | g
      · exact absurd g.1 c2
      · exact tr_rb1 rfl (Or.inr g.2.2) K
theorem s_114 (ht : isT t) (hx : in32 x) (hr0 : ∀ y ∈ σ.1 (t + 5), 0 ≤ y) (K : post (.inl (some (mI (if rget (σ.1 (t + 5)) (rplace (σ.1 (t + 1)) x) < 0 then 0 else rget (σ.1 (t + 5)) (rplace (σ.1 (t + 1)) x))))) σ) : Tr Ls N 114 0 [some (mP (some t)), some (mI x)] [] σ post := by
  refine tr_fact fun ⟨h0, hr⟩ => ?_
  have h1 := rplace_in (T_r0 ht) hr x
  have l1 := rep_len hr (T_r0 ht)
  have h2 := rget_in (rep_in hr (T_r2 ht)) (rplace (σ.1 (t + 1)) x)
  iterate 1 (refine tr_mv rfl (fun _ => rfl) ?_)
  refine tr_gr rfl (T_O ht) (by decide) (T_p2 ht) ?_
  iterate 1 (refine tr_mv rfl (fun _ => rfl) ?_)
  refine tr_gr rfl (T_O ht) (by decide) (T_p0 ht) ?_
  iterate 1 (refine tr_mv rfl (fun _ => rfl) ?_)
  refine tr_placeOf (T_r0 ht) hx rfl rfl ?_
  refine tr_at2 (T_r2 ht) (m32_of (by omega)) rfl rfl ?_
  iterate 1 (refine tr_mv rfl (fun _ => rfl) ?_)
  refine tr_stat rfl rfl rfl (s_329 h2 (by omega) ?_)
  exact tr_ri rfl rfl K
theorem s_107_loop (ht : isT t) : ∀ (rest done : List Int) (f s th : Int) (v5 : Option mV) (σ : Sg), σ.1 (t + 3) = done ++ rest → (σ.1 (t + 1)).length = done.length + rest.length → (σ.1 (t + 5)).length = done.length → (σ.1 (t + 7)).length = done.length → (σ.1 (t + 9)).length = done.length → (0 ≤ f ∧ f ≤ done.length) → (0 ≤ s ∧ s ≤ done.length + 1) → (0 ≤ th ∧ th ≤ done.length + 1) →
    (∀ σ', onlyR (fun a => a = t + 5 ∨ a = t + 7 ∨ a = t + 9) σ σ' → σ'.1 (t + 5) = σ.1 (t + 5) ++ w1 f rest → σ'.1 (t + 7) = σ.1 (t + 7) ++ w2 s rest → σ'.1 (t + 9) = σ.1 (t + 9) ++ w3 th rest → post (.inl none) σ') →
    Tr Ls N 107 30 [some (mP (some t)), some (mI f), some (mI s), some (mI th), some (mI (done.length : Int)), v5] [] σ post := by
  intro rest
  induction rest with
  | nil =>
    intro done f s th v5 σ hs h1 h2 h3 h4 h5 h6 h7 K
    refine tr_fact fun ⟨h0, hr⟩ => ?_
    have l1 := rep_len hr (T_r0 ht)
    iterate 2 (refine tr_mv rfl (fun _ => rfl) ?_)
    refine tr_gr rfl (T_O ht) (by decide) (T_p0 ht) ?_
    refine tr_size (T_r0 ht) rfl rfl ?_
    simp only [List.length_nil] at h1
    refine tr_cmp2 rfl (m32_of (by omega)) (m32_of (by omega)) (fun _ => ?_) (fun c1 => absurd (show ((σ.1 (t + 1)).length : Int) ≤ (done.length : Int) by omega) c1)
    exact tr_ret rfl (fun _ => rfl) (K σ onlyR.rf (by simp [w1]) (by simp [w2]) (by simp [w3]))
  | cons l rest ih =>
    intro done f s th v5 σ hs h1 h2 h3 h4 h5 h6 h7 K
    refine tr_fact fun ⟨h0, hr⟩ => ?_
    have l1 := rep_len hr (T_r0 ht)
    have hl2 : (l :: rest).length = rest.length + 1 := rfl
    have hlin : in32 l := rep_in hr (T_r1 ht) l (by rw [hs]; simp)
    iterate 2 (refine tr_mv rfl (fun _ => rfl) ?_)
    refine tr_gr rfl (T_O ht) (by decide) (T_p0 ht) ?_
    refine tr_size (T_r0 ht) rfl rfl ?_
    refine tr_cmp2 rfl (m32_of (by omega)) (m32_of (by omega)) (fun c1 => absurd c1 (by show ¬ _ ≤ _; omega)) (fun _ => ?_)
    iterate 1 (refine tr_mv rfl (fun _ => rfl) ?_)
    refine tr_gr rfl (T_O ht) (by decide) (T_p1 ht) ?_
    iterate 1 (refine tr_mv rfl (fun _ => rfl) ?_)
    refine tr_at2 (T_r1 ht) (m32_of (by omega)) rfl rfl ?_
    rw [hs, rget_mid rfl]
    iterate 4 (refine tr_mv rfl (fun _ => rfl) ?_)
    -- the puts
    have hput : ∀ (f' s' th' : Int) , f' = (if l = 1 then f + 1 else f) → s' = (if l = 1 then 1 else if l = 2 then s + 1 else s) → th' = (if l ≤ 2 then 1 else if l = 3 then th + 1 else th) → Tr Ls N 107 115 [some (mP (some t)), some (mI f'), some (mI s'), some (mI th'), some (mI (done.length : Int)), some (mI l)] [] σ post := by
      intro f' s' th' e1 e2 e3
      have b1 : 0 ≤ f' ∧ f' ≤ done.length + 1 := by rw [e1]; split <;> omega
      have b2 : 0 ≤ s' ∧ s' ≤ done.length + 2 := by rw [e2]; split; omega; split <;> omega
      have b3 : 0 ≤ th' ∧ th' ≤ done.length + 2 := by rw [e3]; split; omega; split <;> omega
      iterate 1 (refine tr_mv rfl (fun _ => rfl) ?_)
      refine tr_gr rfl (T_O ht) (by decide) (T_p2 ht) ?_
      iterate 1 (refine tr_mv rfl (fun _ => rfl) ?_)
      refine tr_put (T_r2 ht) (by omega) rfl rfl ?_
      rw [rput_lt (by omega)]
      iterate 1 (refine tr_mv rfl (fun _ => rfl) ?_)
      refine tr_gr rfl (T_O ht) (by decide) (T_p3 ht) ?_
      iterate 1 (refine tr_mv rfl (fun _ => rfl) ?_)
      refine tr_put (T_r3 ht) (by omega) rfl rfl ?_
      rw [setR_ne _ _ (show t + 7 ≠ t + 5 by omega), rput_lt (by omega)]
      iterate 1 (refine tr_mv rfl (fun _ => rfl) ?_)
      refine tr_gr rfl (T_O ht) (by decide) (T_p4 ht) ?_
      iterate 1 (refine tr_mv rfl (fun _ => rfl) ?_)
      refine tr_put (T_r4 ht) (by omega) rfl rfl ?_
      rw [setR_ne _ _ (show t + 9 ≠ t + 7 by omega), setR_ne _ _ (show t + 9 ≠ t + 5 by omega), rput_lt (by omega)]
      iterate 2 (refine tr_mv rfl (fun _ => rfl) ?_)
      show Tr Ls N 107 30 [some (mP (some t)), some (mI f'), some (mI s'), some (mI th'), some (mI ((done.length : Int) + 1)), some (mI l)] [] _ post
      rw [show (done.length : Int) + 1 = ((done ++ [l]).length : Int) by simp]
      have hlen : (done ++ [l]).length = done.length + 1 := by simp
      generalize hσ : setR (setR (setR σ (t + 5) (σ.1 (t + 5) ++ [f'])) (t + 7) (σ.1 (t + 7) ++ [s'])) (t + 9) (σ.1 (t + 9) ++ [th']) = σ2
      have q5 : σ2.1 (t + 5) = σ.1 (t + 5) ++ [f'] := by rw [← hσ, setR_ne _ _ (by omega), setR_ne _ _ (by omega), setR_same]
      have q7 : σ2.1 (t + 7) = σ.1 (t + 7) ++ [s'] := by rw [← hσ, setR_ne _ _ (by omega), setR_same]
      have q9 : σ2.1 (t + 9) = σ.1 (t + 9) ++ [th'] := by rw [← hσ, setR_same]
      have q1 : σ2.1 (t + 1) = σ.1 (t + 1) := by rw [← hσ, setR_ne _ _ (by omega), setR_ne _ _ (by omega), setR_ne _ _ (by omega)]
      have q3 : σ2.1 (t + 3) = σ.1 (t + 3) := by rw [← hσ, setR_ne _ _ (by omega), setR_ne _ _ (by omega), setR_ne _ _ (by omega)]
      have qo : onlyR (fun a => a = t + 5 ∨ a = t + 7 ∨ a = t + 9) σ σ2 := by
        rw [← hσ]
        exact ((onlyR.rf.setR (Or.inl rfl)).setR (Or.inr (Or.inl rfl))).setR (Or.inr (Or.inr rfl))
      refine ih (done ++ [l]) f' s' th' _ σ2 (by rw [q3, hs]; simp) (by rw [q1, h1, hlen]; omega) (by rw [q5, hlen]; simp; omega) (by rw [q7, hlen]; simp; omega) (by rw [q9, hlen]; simp; omega) (by omega) (by omega) (by omega) (fun σ' k1 k2 k3 k4 => K σ' (qo.tr k1) ?_ ?_ ?_)
      · rw [k2, q5]; simp only [w1]; rw [← e1]; simp
      · rw [k3, q7]; simp only [w2]; rw [← e2]; simp
      · rw [k4, q9]; simp only [w3]; rw [← e3]; simp
    have h91 : ∀ f' s', f' = (if l = 1 then f + 1 else f) → s' = (if l = 1 then 1 else if l = 2 then s + 1 else s) → Tr Ls N 107 91 [some (mP (some t)), some (mI f'), some (mI s'), some (mI th), some (mI (done.length : Int)), some (mI l)] [] σ post := by
      intro f' s' e1 e2
      iterate 2 (refine tr_mv rfl (fun _ => rfl) ?_)
      refine tr_cmp2 rfl (m32_of (by omega)) (m32_of (by omega)) (fun c1 => ?_) (fun c1 => ?_)
      · iterate 2 (refine tr_mv rfl (fun _ => rfl) ?_)
        refine tr_cmp2 rfl (m32_of (by omega)) (m32_of (by omega)) (fun c2 => ?_) (fun c2 => ?_)
        · iterate 2 (refine tr_mv rfl (fun _ => rfl) ?_)
          exact hput f' s' th e1 e2 (by rw [if_neg (by omega), if_neg (by omega)])
        · iterate 5 (refine tr_mv rfl (fun _ => rfl) ?_)
          exact hput f' s' (th + 1) e1 e2 (by rw [if_neg (by omega), if_pos (by omega)])
      · iterate 3 (refine tr_mv rfl (fun _ => rfl) ?_)
        exact hput f' s' 1 e1 e2 (by rw [if_pos (by omega)])
    have h67 : ∀ f', f' = (if l = 1 then f + 1 else f) → Tr Ls N 107 67 [some (mP (some t)), some (mI f'), some (mI s), some (mI th), some (mI (done.length : Int)), some (mI l)] [] σ post := by
      intro f' e1
      iterate 2 (refine tr_mv rfl (fun _ => rfl) ?_)
      refine tr_cmp2 rfl (m32_of (by omega)) (m32_of (by omega)) (fun c1 => ?_) (fun c1 => ?_)
      · iterate 2 (refine tr_mv rfl (fun _ => rfl) ?_)
        refine tr_cmp2 rfl (m32_of (by omega)) (m32_of (by omega)) (fun c2 => ?_) (fun c2 => ?_)
        · iterate 2 (refine tr_mv rfl (fun _ => rfl) ?_)
          exact h91 f' s e1 (by rw [if_neg (by omega), if_neg (by omega)])
        · iterate 5 (refine tr_mv rfl (fun _ => rfl) ?_)
          exact h91 f' (s + 1) e1 (by rw [if_neg (by omega), if_pos (by omega)])
      · iterate 3 (refine tr_mv rfl (fun _ => rfl) ?_)
        exact h91 f' 1 e1 (by rw [if_pos (by omega)])
    refine tr_cmp2 rfl (m32_of (by omega)) (m32_of (by omega)) (fun c1 => ?_) (fun c1 => ?_)
    · iterate 3 (refine tr_mv rfl (fun _ => rfl) ?_)
      exact h67 (f + 0) (by rw [if_neg (by omega)]; omega)
    · iterate 4 (refine tr_mv rfl (fun _ => rfl) ?_)
      exact h67 (f + 1) (by rw [if_pos (by omega)])
theorem s_107 (ht : isT t) (hl : (σ.1 (t + 1)).length = (σ.1 (t + 3)).length) (K : ∀ σ', onlyR (fun a => a = t + 5 ∨ a = t + 7 ∨ a = t + 9) σ σ' → σ'.1 (t + 5) = w1 0 (σ.1 (t + 3)) → σ'.1 (t + 7) = w2 1 (σ.1 (t + 3)) → σ'.1 (t + 9) = w3 1 (σ.1 (t + 3)) → post (.inl none) σ') :
    Tr Ls N 107 0 [some (mP (some t)), none, none, none, none, none] [] σ post := by
  iterate 1 (refine tr_mv rfl (fun _ => rfl) ?_)
  refine tr_gr rfl (T_O ht) (by decide) (T_p2 ht) ?_
  refine tr_clear (T_r2 ht) rfl rfl ?_
  iterate 1 (refine tr_mv rfl (fun _ => rfl) ?_)
  refine tr_gr rfl (T_O ht) (by decide) (T_p3 ht) ?_
  refine tr_clear (T_r3 ht) rfl rfl ?_
  iterate 1 (refine tr_mv rfl (fun _ => rfl) ?_)
  refine tr_gr rfl (T_O ht) (by decide) (T_p4 ht) ?_
  refine tr_clear (T_r4 ht) rfl rfl ?_
  iterate 8 (refine tr_mv rfl (fun _ => rfl) ?_)
  generalize hσ : setR (setR (setR σ (t + 5) []) (t + 7) []) (t + 9) [] = σ2
  have q5 : σ2.1 (t + 5) = [] := by rw [← hσ, setR_ne _ _ (by omega), setR_ne _ _ (by omega), setR_same]
  have q7 : σ2.1 (t + 7) = [] := by rw [← hσ, setR_ne _ _ (by omega), setR_same]
  have q9 : σ2.1 (t + 9) = [] := by rw [← hσ, setR_same]
  have q1 : σ2.1 (t + 1) = σ.1 (t + 1) := by rw [← hσ, setR_ne _ _ (by omega), setR_ne _ _ (by omega), setR_ne _ _ (by omega)]
  have q3 : σ2.1 (t + 3) = σ.1 (t + 3) := by rw [← hσ, setR_ne _ _ (by omega), setR_ne _ _ (by omega), setR_ne _ _ (by omega)]
  have qo : onlyR (fun a => a = t + 5 ∨ a = t + 7 ∨ a = t + 9) σ σ2 := by
    rw [← hσ]
    exact ((onlyR.rf.setR (Or.inl rfl)).setR (Or.inr (Or.inl rfl))).setR (Or.inr (Or.inr rfl))
  refine s_107_loop ht (σ.1 (t + 3)) [] 0 1 1 none σ2 q3 (by rw [q1, hl]; simp) (by rw [q5]) (by rw [q7]) (by rw [q9]) (by simp) (by simp) (by simp) (fun σ' k1 k2 k3 k4 => K σ' (qo.tr k1) ?_ ?_ ?_)
  · rw [k2, q5, List.nil_append]
  · rw [k3, q7, List.nil_append]
  · rw [k4, q9, List.nil_append]
theorem s_122 (ht : isT t) (hx : in32 x) (K : post (.inl none) (setR (setR σ (t + 11) (rrem (σ.1 (t + 11)) (rplace (σ.1 (t + 11)) x))) (t + 13) (rrem (σ.1 (t + 13)) (rplace (σ.1 (t + 11)) x)))) : Tr Ls N 122 0 [some (mP (some t)), some (mI x), none] [] σ post := by
  refine tr_fact fun ⟨h0, hr⟩ => ?_
  have h1 := rplace_in (T_r5 ht) hr x
  have l1 := rep_len hr (T_r5 ht)
  iterate 1 (refine tr_mv rfl (fun _ => rfl) ?_)
  refine tr_gr rfl (T_O ht) (by decide) (T_p5 ht) ?_
  iterate 1 (refine tr_mv rfl (fun _ => rfl) ?_)
  refine tr_placeOf (T_r5 ht) hx rfl rfl ?_
  iterate 2 (refine tr_mv rfl (fun _ => rfl) ?_)
  refine tr_gr rfl (T_O ht) (by decide) (T_p5 ht) ?_
  iterate 1 (refine tr_mv rfl (fun _ => rfl) ?_)
  refine tr_removeAt (T_r5 ht) (by omega) rfl rfl ?_
  iterate 1 (refine tr_mv rfl (fun _ => rfl) ?_)
  refine tr_gr rfl (T_O ht) (by decide) (T_p6 ht) ?_
  iterate 1 (refine tr_mv rfl (fun _ => rfl) ?_)
  refine tr_removeAt (T_r6 ht) (by omega) rfl rfl ?_
  rw [setR_ne _ _ (show t + 13 ≠ t + 11 by omega)]
  exact tr_ret rfl (fun _ => rfl) K
end TAIL
