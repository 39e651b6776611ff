/-! The model's finds. -/
section MFINDS
variable {Ls N k pc n n' nn b c t a q T kd w d : Nat} {L L0 : mLs} {st r as : List mV} {h h' : mH} {σ σ' σ'' : Sg} {post : tP} {x y z x' y' i i' s v m u lv : Int} {xs ys its lvs sv sg ss g ws ks js wh : List Int} {e : mE} {C : Nat → Nat → Prop} {D : TD} {els : List El} {o : Nat → Int} {ee : El}
theorem tr_top (hx : x = y) (K : Tr Ls N k pc L (mI y :: r) σ post) : Tr Ls N k pc L (mI x :: r) σ post := by rw [hx]; exact K
theorem bit_cmp {B p : Nat} (hB : B < 2 ^ 31) : (if m64 ((B / 2 ^ p % 2 : Nat) : Int) < m64 ((1 : Nat) : Int) then (-1 : Int) else if m64 ((B / 2 ^ p % 2 : Nat) : Int) = m64 ((1 : Nat) : Int) then 0 else 1) = if B / 2 ^ p % 2 = 1 then 0 else -1 := by
  rcases Nat.mod_two_eq_zero_or_one (B / 2 ^ p) with g | g <;> rw [g] <;> decide
set_option maxRecDepth 4000 in
theorem s_279 (hT : T < 3) (hM : tlM T σ D) (hD : okTD D) (hO : opM T σ o) (ha : a < 30) (hX : txM σ a ss) (h40 : okA40 ss) (hls : ss.length ≤ 30) (hb : b < 30) (hXb : txM σ b ys) (h40b : okA40 ys) (hlb : ys.length ≤ 30) (hd : d ≤ 4) (hx : 0 ≤ x ∧ x < 2147483647)
    (K : ∀ σ', only cQ σ σ' → post (.inl (some (mI (fndA (seekQ D o d ss ys (gthR D (o 2) ss).2.1) ss.length (ss.length - x.toNat) x.toNat)))) σ') :
    Tr Ls N 279 0 [some (mP (some 480)), some (mI (T : Int)), some (mI (d : Int)), some (mI (a : Int)), some (mI (b : Int)), some (mI x), none, none, none, none] [] σ post := by
  repeat (first | refine tr_mgr rfl (by decide) rfl ?_ | refine tr_mgi rfl (by decide) (by decide) rfl ?_ | refine tr_mv rfl (fun _ => rfl) ?_)
  refine tr_vc (q := 480) rfl isO_480 rfl rfl rfl (s_277 hT hM hD hO ha hX h40 hls (fun σ1 B hB hbits p1 => ?_))
  repeat (first | refine tr_mgr rfl (by decide) rfl ?_ | refine tr_mgi rfl (by decide) (by decide) rfl ?_ | refine tr_mv rfl (fun _ => rfl) ?_)
  refine tr_vc (q := 480) rfl isO_480 rfl rfl rfl (s_227 hb (hXb.cq p1) hlb (a40in h40b) (fun σ2 r2 o2 => ?_))
  have p2 := p1.tr (cQ_row o2)
  repeat (first | refine tr_mgr rfl (by decide) rfl ?_ | refine tr_mgi rfl (by decide) (by decide) rfl ?_ | refine tr_mv rfl (fun _ => rfl) ?_)
  refine tr_vc (q := 480) rfl isO_480 rfl rfl rfl (s_265 hT (hM.cq p2) hD (hO.cq p2) r2 h40b (by omega) hd (fun σ3 k3 o3 => ?_))
  have p3 := p2.tr (cQ_ko o3)
  repeat (first | refine tr_mgr rfl (by decide) rfl ?_ | refine tr_mgi rfl (by decide) (by decide) rfl ?_ | refine tr_mv rfl (fun _ => rfl) ?_)
  refine tr_vc (q := 480) rfl isO_480 rfl rfl rfl (s_266 k3 (keyOf_len (by omega) hd) (fun σ4 k4 o4 => ?_))
  have p4 := p3.tr (cQ_ot o4)
  iterate 2 (refine tr_mv rfl (fun _ => rfl) ?_)
  have hkin := keyOf_in (o := o) (d := d) hD h40b (by omega)
  have hklen : (keyOf D o d ys).length ≤ 376 := keyOf_len (by omega) hd
  generalize hG : (gthR D (o 2) ss).2.1 = tk at *
  -- the test of a bit
  have hbit : ∀ (p : Nat), p ≤ ss.length → (edgP ss tk p → B / 2 ^ p % 2 = 1) ∧ (¬ edgP ss tk p → B / 2 ^ p % 2 ≠ 1) := fun p hp => ⟨(hbits p hp).mpr, fun g g2 => g ((hbits p hp).mp g2)⟩
  have inner : ∀ (A : Nat), A < ss.length → (∀ v9 σ', only cQ σ σ' → moM σ' (keyOf D o d ys) → fndB (seekQ D o d ss ys tk A) (ss.length - A) (A + 1) = none → Tr Ls N 279 117 [some (mP (some 480)), some (mI (T : Int)), some (mI (d : Int)), some (mI (a : Int)), some (mI (b : Int)), some (mI x), some (mJ (B : Int)), none, some (mI (A : Int)), v9] [] σ' post) → (∀ Bb σ', only cQ σ σ' → fndB (seekQ D o d ss ys tk A) (ss.length - A) (A + 1) = some Bb → post (.inl (some (mI (100 * (A : Int) + (Bb : Int))))) σ') →
      ∀ (dd Bb : Nat) (σ' : Sg), Bb + dd = ss.length + 1 → A < Bb → fndB (seekQ D o d ss ys tk A) (ss.length - A) (A + 1) = fndB (seekQ D o d ss ys tk A) dd Bb → only cQ σ σ' → moM σ' (keyOf D o d ys) → Tr Ls N 279 45 [some (mP (some 480)), some (mI (T : Int)), some (mI (d : Int)), some (mI (a : Int)), some (mI (b : Int)), some (mI x), some (mJ (B : Int)), none, some (mI (A : Int)), some (mI (Bb : Int))] [] σ' post := by
    intro A hA KN KS dd
    induction dd with
    | zero =>
      intro Bb σ' e1 e2 e3 ho hk
      repeat (first | refine tr_mgr rfl (by decide) rfl ?_ | refine tr_mgi rfl (by decide) (by decide) rfl ?_ | refine tr_mv rfl (fun _ => rfl) ?_)
      refine tr_man (j := a) rfl (by omega) (by omega) rfl (fun _ => rfl) rfl rfl rfl ?_
      rw [(hX.cq ho).1]
      refine tr_cmp2 rfl (m32_of (by omega)) (m32_of (by omega)) (fun _ => ?_) (fun c1 => absurd (show (ss.length : Int) < (Bb : Int) by omega) c1)
      exact KN _ σ' ho hk (by rw [e3]; rfl)
    | succ dd ih =>
      intro Bb σ' e1 e2 e3 ho hk
      have hnx : ∀ σ', only cQ σ σ' → moM σ' (keyOf D o d ys) → seekQ D o d ss ys tk A Bb = false → Tr Ls N 279 111 [some (mP (some 480)), some (mI (T : Int)), some (mI (d : Int)), some (mI (a : Int)), some (mI (b : Int)), some (mI x), some (mJ (B : Int)), none, some (mI (A : Int)), some (mI (Bb : Int))] [] σ' post := by
        intro σ' ho hk hq
        iterate 2 (refine tr_mv rfl (fun _ => rfl) ?_)
        show Tr Ls N 279 45 [some (mP (some 480)), some (mI (T : Int)), some (mI (d : Int)), some (mI (a : Int)), some (mI (b : Int)), some (mI x), some (mJ (B : Int)), none, some (mI (A : Int)), some (mI ((Bb : Int) + 1))] [] σ' post
        rw [show (Bb : Int) + 1 = ((Bb + 1 : Nat) : Int) by omega]
        refine ih (Bb + 1) σ' (by omega) (by omega) ?_ ho hk
        rw [e3]
        show (if seekQ D o d ss ys tk A Bb = true then _ else _) = _
        rw [hq]
        rfl
      repeat (first | refine tr_mgr rfl (by decide) rfl ?_ | refine tr_mgi rfl (by decide) (by decide) rfl ?_ | refine tr_mv rfl (fun _ => rfl) ?_)
      refine tr_man (j := a) rfl (by omega) (by omega) rfl (fun _ => rfl) rfl rfl rfl ?_
      rw [(hX.cq ho).1]
      refine tr_cmp2 rfl (m32_of (by omega)) (m32_of (by omega)) (fun c1 => absurd c1 (by show ¬ _ < _; omega)) (fun _ => ?_)
      iterate 3 (refine tr_mv rfl (fun _ => rfl) ?_)
      rw [q_shr (show B < 2 ^ 62 by omega) (show A < 31 by omega)]
      iterate 2 (refine tr_mv rfl (fun _ => rfl) ?_)
      show Tr Ls N 279 63 [some (mP (some 480)), some (mI (T : Int)), some (mI (d : Int)), some (mI (a : Int)), some (mI (b : Int)), some (mI x), some (mJ (B : Int)), none, some (mI (A : Int)), some (mI (Bb : Int))] [mJ (Int64.ofInt ((B / 2 ^ A : Nat) : Int) &&& Int64.ofInt 1).toInt] σ' post
      rw [q_a1 (Nat.lt_of_le_of_lt (Nat.div_le_self _ _) (show B < 2 ^ 62 by omega))]
      iterate 2 (refine tr_mv rfl (fun _ => rfl) ?_)
      refine tr_top (bit_cmp hB) ?_
      by_cases q1 : edgP ss tk A
      · rw [if_pos ((hbit A (by omega)).1 q1)]
        refine tr_if2 rfl (m32_of (x := 0) ⟨by decide, by decide⟩) (fun c9 => absurd rfl c9) (fun _ => ?_)
        iterate 3 (refine tr_mv rfl (fun _ => rfl) ?_)
        rw [q_shr (show B < 2 ^ 62 by omega) (show Bb < 31 by omega)]
        iterate 2 (refine tr_mv rfl (fun _ => rfl) ?_)
        show Tr Ls N 279 75 [some (mP (some 480)), some (mI (T : Int)), some (mI (d : Int)), some (mI (a : Int)), some (mI (b : Int)), some (mI x), some (mJ (B : Int)), none, some (mI (A : Int)), some (mI (Bb : Int))] [mJ (Int64.ofInt ((B / 2 ^ Bb : Nat) : Int) &&& Int64.ofInt 1).toInt] σ' post
        rw [q_a1 (Nat.lt_of_le_of_lt (Nat.div_le_self _ _) (show B < 2 ^ 62 by omega))]
        iterate 2 (refine tr_mv rfl (fun _ => rfl) ?_)
        refine tr_top (bit_cmp hB) ?_
        by_cases q2 : edgP ss tk Bb
        · rw [if_pos ((hbit Bb (by omega)).1 q2)]
          refine tr_if2 rfl (m32_of (x := 0) ⟨by decide, by decide⟩) (fun c9 => absurd rfl c9) (fun _ => ?_)
          repeat (first | refine tr_mgr rfl (by decide) rfl ?_ | refine tr_mgi rfl (by decide) (by decide) rfl ?_ | refine tr_mv rfl (fun _ => rfl) ?_)
          refine tr_vc (q := 480) rfl isO_480 rfl rfl rfl (s_278 ha (hX.cq ho) hls h40 (A := A) (B := Bb) (by omega) (fun σ5 r5 o5 => ?_))
          have p5 := ho.tr (cQ_row o5)
          have hpl := partOf_len ss A Bb
          have hp40 := partOf_ok h40 A Bb
          repeat (first | refine tr_mgr rfl (by decide) rfl ?_ | refine tr_mgi rfl (by decide) (by decide) rfl ?_ | refine tr_mv rfl (fun _ => rfl) ?_)
          refine tr_vc (q := 480) rfl isO_480 rfl rfl rfl (s_265 hT (hM.cq p5) hD (hO.cq p5) r5 hp40 (by omega) hd (fun σ6 k6 o6 => ?_))
          have p6 := p5.tr (cQ_ko o6)
          have hk6 := (hk.el o5 (fun i => by unfold cRow; omega) (by unfold cRow; omega)).el o6 (fun i => by omega) (by omega)
          repeat (first | refine tr_mgr rfl (by decide) rfl ?_ | refine tr_mgi rfl (by decide) (by decide) rfl ?_ | refine tr_mv rfl (fun _ => rfl) ?_)
          refine tr_vc (q := 480) rfl isO_480 rfl rfl rfl (s_267 k6 hk6 (keyOf_len (by omega) hd) hklen (k200 (keyOf_in hD hp40 (by omega))) (k200 hkin) ?_)
          have hci := cmpL_in (keyOf D o d ys) (keyOf D o d (partOf ss A Bb))
          have hsw : cmpL (keyOf D o d (partOf ss A Bb)) (keyOf D o d ys) = 0 ↔ cmpL (keyOf D o d ys) (keyOf D o d (partOf ss A Bb)) = 0 := by
            rw [cmpL_eq, cmpL_eq]
            exact ⟨Eq.symm, Eq.symm⟩
          refine tr_if2 rfl (m32_of (by omega)) (fun q3 => ?_) (fun q3 => ?_)
          · exact hnx σ6 p6 hk6 (by unfold seekQ; rw [decide_eq_false (fun g => (show ¬ cmpL (keyOf D o d ys) (keyOf D o d (partOf ss A Bb)) = 0 from q3) (hsw.mp g))]; simp)
          · iterate 5 (refine tr_mv rfl (fun _ => rfl) ?_)
            refine tr_ri rfl rfl (KS Bb σ6 p6 ?_)
            rw [e3]
            show (if seekQ D o d ss ys tk A Bb = true then _ else _) = _
            rw [if_pos ?_]
            unfold seekQ
            rw [decide_eq_true q1, decide_eq_true q2, decide_eq_true (hsw.mpr (Decidable.byContradiction q3))]
            rfl
        · rw [if_neg ((hbit Bb (by omega)).2 q2)]
          refine tr_if2 rfl (m32_of (x := -1) ⟨by decide, by decide⟩) (fun _ => ?_) (fun c9 => absurd (show (-1 : Int) ≠ 0 by decide) c9)
          exact hnx σ' ho hk (by unfold seekQ; rw [decide_eq_false q2]; simp)
      · rw [if_neg ((hbit A (by omega)).2 q1)]
        refine tr_if2 rfl (m32_of (x := -1) ⟨by decide, by decide⟩) (fun _ => ?_) (fun c9 => absurd (show (-1 : Int) ≠ 0 by decide) c9)
        refine KN _ σ' ho hk ?_
        have hno : ∀ (dd Bb : Nat), fndB (seekQ D o d ss ys tk A) dd Bb = none := by
          intro dd
          induction dd with
          | zero => intro Bb; rfl
          | succ dd ih2 =>
            intro Bb
            show (if seekQ D o d ss ys tk A Bb = true then _ else _) = _
            rw [if_neg (by unfold seekQ; rw [decide_eq_false q1]; simp)]
            exact ih2 (Bb + 1)
        exact hno _ _
  have outer : ∀ (dd A : Nat) (v9 : Option mV) (σ' : Sg), dd = ss.length - A → A < 2147483648 → (∀ σ', only cQ σ σ' → post (.inl (some (mI (fndA (seekQ D o d ss ys tk) ss.length dd A)))) σ') → only cQ σ σ' → moM σ' (keyOf D o d ys) → Tr Ls N 279 28 [some (mP (some 480)), some (mI (T : Int)), some (mI (d : Int)), some (mI (a : Int)), some (mI (b : Int)), some (mI x), some (mJ (B : Int)), none, some (mI (A : Int)), v9] [] σ' post := by
    intro dd
    induction dd with
    | zero =>
      intro A v9 σ' e1 hA K' ho hk
      repeat (first | refine tr_mgr rfl (by decide) rfl ?_ | refine tr_mgi rfl (by decide) (by decide) rfl ?_ | refine tr_mv rfl (fun _ => rfl) ?_)
      refine tr_man (j := a) rfl (by omega) (by omega) rfl (fun _ => rfl) rfl rfl rfl ?_
      rw [(hX.cq ho).1]
      refine tr_cmp2 rfl (m32_of (by omega)) (m32_of (by omega)) (fun _ => ?_) (fun c1 => absurd (show (ss.length : Int) ≤ (A : Int) by omega) c1)
      iterate 1 (refine tr_mv rfl (fun _ => rfl) ?_)
      exact tr_ri rfl rfl (K' σ' ho)
    | succ dd ih =>
      intro A v9 σ' e1 hA K' ho hk
      repeat (first | refine tr_mgr rfl (by decide) rfl ?_ | refine tr_mgi rfl (by decide) (by decide) rfl ?_ | refine tr_mv rfl (fun _ => rfl) ?_)
      refine tr_man (j := a) rfl (by omega) (by omega) rfl (fun _ => rfl) rfl rfl rfl ?_
      rw [(hX.cq ho).1]
      refine tr_cmp2 rfl (m32_of (by omega)) (m32_of (by omega)) (fun c1 => absurd c1 (by show ¬ _ ≤ _; omega)) (fun _ => ?_)
      iterate 4 (refine tr_mv rfl (fun _ => rfl) ?_)
      show Tr Ls N 279 45 [some (mP (some 480)), some (mI (T : Int)), some (mI (d : Int)), some (mI (a : Int)), some (mI (b : Int)), some (mI x), some (mJ (B : Int)), none, some (mI (A : Int)), some (mI ((A : Int) + 1))] [] σ' post
      rw [show (A : Int) + 1 = ((A + 1 : Nat) : Int) by omega]
      refine inner A (by omega) (fun v9 σ5 q1 q2 q3 => ?_) (fun Bb σ5 q1 q2 => ?_) (ss.length - A) (A + 1) σ' (by omega) (by omega) rfl ho hk
      · iterate 2 (refine tr_mv rfl (fun _ => rfl) ?_)
        show Tr Ls N 279 28 [some (mP (some 480)), some (mI (T : Int)), some (mI (d : Int)), some (mI (a : Int)), some (mI (b : Int)), some (mI x), some (mJ (B : Int)), none, some (mI ((A : Int) + 1)), v9] [] σ5 post
        rw [show (A : Int) + 1 = ((A + 1 : Nat) : Int) by omega]
        refine ih (A + 1) v9 σ5 (by omega) (by omega) (fun σ6 z1 => ?_) q1 q2
        have := K' σ6 z1
        unfold fndA at this
        rw [q3] at this
        exact this
      · have := K' σ5 q1
        unfold fndA at this
        rw [q2] at this
        exact this
  have h9 := outer (ss.length - x.toNat) x.toNat none σ4 rfl (by omega) K p4 k4
  rw [show ((x.toNat : Nat) : Int) = x by omega] at h9
  exact h9
end MFINDS
