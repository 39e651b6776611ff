/-! The model's elements: codes of gaps, what is added. -/
theorem canBe_small {c : Int} (h : canBe c) (hc : okCd c) : c < 1000000 := by
  obtain ⟨h1, h2, h3, h4⟩ := h
  refine Decidable.byContradiction fun g => ?_
  have e3 : sgIn c = 3 := by unfold sgIn; rw [if_neg (by omega), if_neg (by omega), if_neg (by omega)]
  have k1 := h3 (by omega)
  have k2 := h4 (by omega)
  unfold lmk isLet isMrk sgAt at k1 k2
  unfold isLet sgAt at h2
  rw [e3] at h2 k1 k2
  simp only [show (3 : Int) - 1 - 0 = 2 by decide, show (3 : Int) - 1 - 1 = 1 by decide, show (3 : Int) - 1 - 2 = 0 by decide, if_true, if_false, show ¬ ((1 : Int) = 2) by decide, show ¬ ((0 : Int) = 2) by decide, show ¬ ((0 : Int) = 1) by decide] at h2 k1 k2
  omega
theorem okTD.small {D : TD} (h : okTD D) {c : Int} (hc : kn D c) : c < 1000000 := by
  have h1 := h.cd hc
  obtain ⟨-, -, -, -, -, -, -, -, k1, k2, -⟩ := h
  rcases hc with g | g
  · rcases (k1 c g).2 with g2 | g2
    · exact canBe_small g2 h1
    · omega
  · exact canBe_small (k2 c g).2 h1
/-- a known code of more than one sign begins with a letter -/
theorem okTD.first {D : TD} (h : okTD D) {c : Int} (hc : kn D c) (h2 : 100 ≤ c) : isLet (sgAt c 0) := by
  obtain ⟨-, -, -, -, -, -, -, -, k1, k2, -⟩ := h
  rcases hc with g | g
  · rcases (k1 c g).2 with g2 | g2
    · exact g2.2.1
    · omega
  · exact (k2 c g).2.2.1
theorem sgAt2 {a b : Int} (ha : 0 ≤ a ∧ a < 99) (hb : 0 ≤ b ∧ b < 99) : sgAt ((a + 1) * 100 + b + 1) 0 = a := by
  have e : sgIn ((a + 1) * 100 + b + 1) = 2 := by unfold sgIn; rw [if_neg (by omega), if_neg (by omega), if_pos (by omega)]
  unfold sgAt
  rw [e]
  simp only [show (2 : Int) - 1 - 0 = 1 by decide, show ¬ ((1 : Int) = 2) by decide, if_true, if_false]
  omega
theorem sgAt3 {a b c : Int} (ha : 0 ≤ a ∧ a < 99) (hb : 0 ≤ b ∧ b < 99) (hc : 0 ≤ c ∧ c < 99) : sgAt (((a + 1) * 100 + b + 1) * 100 + c + 1) 0 = a := by
  have e : sgIn (((a + 1) * 100 + b + 1) * 100 + c + 1) = 3 := by unfold sgIn; rw [if_neg (by omega), if_neg (by omega), if_neg (by omega)]
  unfold sgAt
  rw [e]
  simp only [show (3 : Int) - 1 - 0 = 2 by decide, if_true]
  omega
theorem tmk_no {D : TD} {c : Int} (h : ∀ m, isMrk m → ¬ kn D (c * 100 + m + 1)) (v : Int) : ∀ (ms : List Int) (cl : Int) (p : Nat) (tk : List Int), (tmk D v ms c cl p tk).1 = c
  | [], _, _, _ => rfl
  | m :: ms, cl, p, tk => by
    unfold tmk
    split
    · rename_i g
      rw [if_neg (fun g2 => h m g g2.2)]
      exact tmk_no h v ms _ _ _
    · rfl
theorem tmk_ge {D : TD} (v : Int) : ∀ (ms : List Int) (c cl : Int) (p : Nat) (tk : List Int), 0 < c → (tmk D v ms c cl p tk).1 = c ∨ 100 ≤ (tmk D v ms c cl p tk).1
  | [], _, _, _, _, _ => Or.inl rfl
  | m :: ms, c, cl, p, tk, hc => by
    unfold tmk
    split
    · rename_i g
      split
      · rcases tmk_ge (D := D) v ms (c * 100 + m + 1) cl (p + 1) (tk.set p v) (by omega) with k | k
        · exact Or.inr (by omega)
        · exact Or.inr k
      · exact tmk_ge v ms c _ _ _ hc
    · exact Or.inl rfl
theorem lnOf_one {D : TD} (hD : okTD D) {l : List Int} (h40 : okA40 l) {s : Int} {l' : List Int} (e : l = s :: l') (hs : isBlk s) : lnOf D l = 1 := by
  subst e
  have hs40 := h40 s List.mem_cons_self
  unfold lnOf
  rw [if_neg, if_neg]
  · rintro ⟨g1, g2⟩
    cases l' with
    | nil => simp at g1
    | cons y l' =>
      have hy := h40 y (by simp)
      have e2 : cdL ((s :: y :: l').take 2) = (s + 1) * 100 + y + 1 := by
        show ((0 : Int) * 100 + s + 1) * 100 + y + 1 = _
        omega
      rw [e2] at g2
      have := hD.first g2 (by omega)
      rw [sgAt2 (by omega) (by omega)] at this
      omega
  · rintro ⟨g1, g2⟩
    cases l' with
    | nil => simp at g1
    | cons y l' =>
      cases l' with
      | nil => simp at g1
      | cons z l' =>
        have hy := h40 y (by simp)
        have hz := h40 z (by simp)
        have e2 : cdL ((s :: y :: z :: l').take 3) = ((s + 1) * 100 + y + 1) * 100 + z + 1 := by
          show (((0 : Int) * 100 + s + 1) * 100 + y + 1) * 100 + z + 1 = _
          omega
        rw [e2] at g2
        have := hD.first g2 (by omega)
        rw [sgAt3 (by omega) (by omega) (by omega)] at this
        omega
theorem okTD.notSv {D : TD} (hD : okTD D) {c : Int} (hc : 29 ≤ c ∧ c ≤ 40) : rplace D.2.2.1 c = -1 := by
  rcases rplace_or D.2.2.1 c with g | g
  · exact g.1
  · have := (hD.2.2.2.2.2.2.2.2.2.1 c g.2.2).2.2.1
    have e : sgIn c = 1 := by unfold sgIn; rw [if_neg (by omega), if_pos (by omega)]
    unfold isLet sgAt at this
    rw [e] at this
    simp only [show (1 : Int) - 1 - 0 = 0 by decide, show ¬ ((0 : Int) = 2) by decide, show ¬ ((0 : Int) = 1) by decide, if_false] at this
    omega
theorem itmC_blk {D : TD} (hD : okTD D) {ss : List Int} (h40 : okA40 ss) {p : Nat} (hp : p < ss.length) (v : Int) (tk : List Int) (hs : isBlk (ss.getD p 0)) : (itmC D ss p v tk).1 = ss.getD p 0 + 1 := by
  have h4 : okA40 (ss.drop p) := fun s hs => h40 s (List.mem_of_mem_drop hs)
  have e := drop_get hp
  have h1 := lnOf_one hD h4 e hs
  have hs40 := h4 (ss.getD p 0) (by rw [e]; exact List.mem_cons_self)
  unfold itmC
  rw [h1, e, show cdL (List.take 1 (ss.getD p 0 :: ss.drop (p + 1))) = ss.getD p 0 + 1 from (by show (0 : Int) * 100 + ss.getD p 0 + 1 = _; omega)]
  refine tmk_no (fun m hm hk => ?_) _ _ _ _ _
  have := hD.first hk (by omega)
  rw [sgAt2 (by omega) (by omega)] at this
  omega
theorem itmC_nblk {D : TD} {ss : List Int} (h40 : okA40 ss) {p : Nat} (hp : p < ss.length) (v : Int) (tk : List Int) (hs : ¬ isBlk (ss.getD p 0)) : (itmC D ss p v tk).1 ≠ 29 ∧ (itmC D ss p v tk).1 ≠ 30 := by
  have h4 : okA40 (ss.drop p) := fun s hs => h40 s (List.mem_of_mem_drop hs)
  have e := drop_get hp
  have hs40 := h4 (ss.getD p 0) (by rw [e]; exact List.mem_cons_self)
  have hne : ss.drop p ≠ [] := by rw [e]; simp
  have hl := lnOf_in D hne
  have hc : cdL ((ss.drop p).take (lnOf D (ss.drop p))) = ss.getD p 0 + 1 ∨ 100 ≤ cdL ((ss.drop p).take (lnOf D (ss.drop p))) := by
    generalize lnOf D (ss.drop p) = n at *
    rcases (show n = 1 ∨ n = 2 ∨ n = 3 by omega) with rfl | rfl | rfl
    · left
      rw [e]
      show (0 : Int) * 100 + ss.getD p 0 + 1 = _
      omega
    · right
      have h2 := List.length_drop (i := p) (l := ss)
      rw [e]
      have e2 := drop_get (ss := ss) (show p + 1 < ss.length by omega)
      have hy := h4 (ss.getD (p + 1) 0) (by rw [e, e2]; simp)
      rw [e2]
      show 100 ≤ ((0 : Int) * 100 + ss.getD p 0 + 1) * 100 + ss.getD (p + 1) 0 + 1
      omega
    · right
      have h2 := List.length_drop (i := p) (l := ss)
      rw [e]
      have e2 := drop_get (ss := ss) (show p + 1 < ss.length by omega)
      have e3 := drop_get (ss := ss) (show p + 1 + 1 < ss.length by omega)
      have hy := h4 (ss.getD (p + 1) 0) (by rw [e, e2]; simp)
      have hz := h4 (ss.getD (p + 1 + 1) 0) (by rw [e, e2, e3]; simp)
      rw [e2, e3]
      show 100 ≤ (((0 : Int) * 100 + ss.getD p 0 + 1) * 100 + ss.getD (p + 1) 0 + 1) * 100 + ss.getD (p + 1 + 1) 0 + 1
      omega
  unfold itmC
  rcases tmk_ge (D := D) v (ss.drop (p + lnOf D (ss.drop p))) (cdL ((ss.drop p).take (lnOf D (ss.drop p)))) 0 (p + lnOf D (ss.drop p)) (tkF (lnOf D (ss.drop p)) p v tk) (by omega) with g | g
  · rw [g]
    omega
  · omega
/-- the elements at hand -/
def meM (σ : Sg) (els : List El) : Prop := σ.2 480 32 = (els.length : Int) ∧ mseg σ 504 0 (els.map (fun e => e.1)) ∧ mseg σ 505 0 (els.map (fun e => e.2.1)) ∧ mseg σ 506 0 (els.map (fun e => e.2.2.1)) ∧ mseg σ 507 0 (els.map (fun e => e.2.2.2))
abbrev cEl (q i : Nat) : Prop := q = 504 ∨ q = 505 ∨ q = 506 ∨ q = 507 ∨ (q = 480 ∧ i = 32)
abbrev cGr (q i : Nat) : Prop := q = 508 ∨ (q = 480 ∧ i = 34)
section MELS
variable {Ls N k pc n n' nn b c t a q T kd w : Nat} {L L0 : mLs} {st r as : List mV} {h h' : mH} {σ σ' σ'' : Sg} {post : tP} {x y z x' y' i i' s v m u : Int} {xs ys its lvs sv sg : List Int} {e : mE} {C : Nat → Nat → Prop} {D : TD} {els : List El}
theorem s_255 (hS : meM σ els) (hl : els.length < 128) (K : ∀ σ', meM σ' (els ++ [(x, y, z, u)]) → only cEl σ σ' → post (.inl none) σ') : Tr Ls N 255 0 [some (mP (some 480)), some (mI x), some (mI y), some (mI z), some (mI u)] [] σ post := by
  obtain ⟨h1, h2, h3, h4, h5⟩ := hS
  have l1 : (els.map (fun e => e.1)).length = els.length := List.length_map _
  have l2 : (els.map (fun e => e.2.1)).length = els.length := List.length_map _
  have l3 : (els.map (fun e => e.2.2.1)).length = els.length := List.length_map _
  have l4 : (els.map (fun e => e.2.2.2)).length = els.length := List.length_map _
  repeat (first | refine tr_mgr rfl (by decide) rfl ?_ | refine tr_mgi rfl (by decide) (by decide) rfl ?_ | refine tr_mv rfl (fun _ => rfl) ?_)
  rw [h1]
  refine tr_msn (j := 0 + (els.map (fun e => e.1)).length) rfl (by omega) (by omega) rfl (fun _ => rfl) rfl rfl rfl ?_
  repeat (first | refine tr_mgr rfl (by decide) rfl ?_ | refine tr_mgi rfl (by decide) (by decide) rfl ?_ | refine tr_mv rfl (fun _ => rfl) ?_)
  rw [setF_ne _ _ (by omega), h1]
  refine tr_msn (j := 0 + (els.map (fun e => e.2.1)).length) rfl (by omega) (by omega) rfl (fun _ => rfl) rfl rfl rfl ?_
  repeat (first | refine tr_mgr rfl (by decide) rfl ?_ | refine tr_mgi rfl (by decide) (by decide) rfl ?_ | refine tr_mv rfl (fun _ => rfl) ?_)
  rw [setF_ne _ _ (by omega), setF_ne _ _ (by omega), h1]
  refine tr_msn (j := 0 + (els.map (fun e => e.2.2.1)).length) rfl (by omega) (by omega) rfl (fun _ => rfl) rfl rfl rfl ?_
  repeat (first | refine tr_mgr rfl (by decide) rfl ?_ | refine tr_mgi rfl (by decide) (by decide) rfl ?_ | refine tr_mv rfl (fun _ => rfl) ?_)
  rw [setF_ne _ _ (by omega), setF_ne _ _ (by omega), setF_ne _ _ (by omega), h1]
  refine tr_msn (j := 0 + (els.map (fun e => e.2.2.2)).length) rfl (by omega) (by omega) rfl (fun _ => rfl) rfl rfl rfl ?_
  repeat (first | refine tr_mgr rfl (by decide) rfl ?_ | refine tr_mgi rfl (by decide) (by decide) rfl ?_ | refine tr_mv rfl (fun _ => rfl) ?_)
  rw [setF_ne _ _ (by omega), setF_ne _ _ (by omega), setF_ne _ _ (by omega), setF_ne _ _ (by omega), h1]
  refine tr_mpi rfl (Or.inl rfl) (by decide) rfl ?_
  refine tr_ret rfl (fun _ => rfl) (K _ ⟨?_, ?_, ?_, ?_, ?_⟩ (((((only.rf.setF (Or.inl rfl)).setF (Or.inr (Or.inl rfl))).setF (Or.inr (Or.inr (Or.inl rfl)))).setF (Or.inr (Or.inr (Or.inr (Or.inl rfl))))).setF (Or.inr (Or.inr (Or.inr (Or.inr ⟨rfl, rfl⟩))))))
  · rw [setF_same]
    simp
  · rw [List.map_append]
    exact (h2.push (v := x)).keep (fun i _ _ => by rw [setF_ne _ _ (by omega), setF_ne _ _ (by omega), setF_ne _ _ (by omega), setF_ne _ _ (by omega)])
  · rw [List.map_append]
    refine mseg.keep (σ := setF (setF σ 504 (0 + (els.map (fun e => e.1)).length) x) 505 (0 + (els.map (fun e => e.2.1)).length) y) ?_ (fun i _ _ => by rw [setF_ne _ _ (by omega), setF_ne _ _ (by omega), setF_ne _ _ (by omega)])
    exact mseg.push (h3.keep (fun i _ _ => setF_ne _ _ (by omega)))
  · rw [List.map_append]
    refine mseg.keep (σ := setF (setF (setF σ 504 (0 + (els.map (fun e => e.1)).length) x) 505 (0 + (els.map (fun e => e.2.1)).length) y) 506 (0 + (els.map (fun e => e.2.2.1)).length) z) ?_ (fun i _ _ => by rw [setF_ne _ _ (by omega), setF_ne _ _ (by omega)])
    exact mseg.push (h4.keep (fun i _ _ => by rw [setF_ne _ _ (by omega), setF_ne _ _ (by omega)]))
  · rw [List.map_append]
    refine mseg.keep (σ := setF (setF (setF (setF σ 504 (0 + (els.map (fun e => e.1)).length) x) 505 (0 + (els.map (fun e => e.2.1)).length) y) 506 (0 + (els.map (fun e => e.2.2.1)).length) z) 507 (0 + (els.map (fun e => e.2.2.2)).length) u) ?_ (fun i _ _ => by rw [setF_ne _ _ (by omega)])
    exact mseg.push (h5.keep (fun i _ _ => by rw [setF_ne _ _ (by omega), setF_ne _ _ (by omega), setF_ne _ _ (by omega)]))
theorem lsM.el (h : lsM T σ its lvs) (ho : only C σ σ') (hC : ∀ q i, 490 ≤ q → q ≤ 495 → ¬ C q i) : lsM T σ' its lvs := ⟨(ho.2 _ _ (hC _ _ (by decide) (by decide))).trans h.1, h.2.1.only ho (fun i _ _ => hC _ _ (by decide) (by decide)), h.2.2.only ho (fun i _ _ => hC _ _ (by decide) (by decide))⟩
theorem wtM.el (h : wtM T σ lvs) (ho : only C σ σ') (hC : ∀ q i, 490 ≤ q → q ≤ 495 → ¬ C q i) : wtM T σ' lvs := ⟨h.1.only ho (fun i _ _ => hC _ _ (by decide) (by decide)), h.2.1.only ho (fun i _ _ => hC _ _ (by decide) (by decide)), h.2.2.only ho (fun i _ _ => hC _ _ (by decide) (by decide))⟩
theorem svM.el (h : svM T σ sv sg) (ho : only C σ σ') (hC : ∀ q i, 496 ≤ q → q ≤ 498 → ¬ C q i) : svM T σ' sv sg := ⟨(ho.2 _ _ (hC _ _ (by decide) (by decide))).trans h.1, h.2.1.only ho (fun i _ _ => hC _ _ (by decide) (by decide)), h.2.2.only ho (fun i _ _ => hC _ _ (by decide) (by decide))⟩
theorem tlM.el (h : tlM T σ D) (ho : only C σ σ') (hC : ∀ q i, 490 ≤ q → q ≤ 498 → ¬ C q i) : tlM T σ' D := ⟨h.1.el ho (fun q i h1 h2 => hC q i h1 (by omega)), h.2.1.el ho (fun q i h1 h2 => hC q i (by omega) h2), h.2.2.el ho (fun q i h1 h2 => hC q i h1 (by omega))⟩
theorem okTD.i32 (h : okTD D) : ∀ y ∈ D.1, in32 y := fun y hy => by have := h.cd (Or.inl hy); omega
theorem okTD.s32 (h : okTD D) : ∀ y ∈ D.2.2.1, in32 y := fun y hy => by have := h.cd (Or.inr hy); omega
theorem s_232D (hT : T < 4) (hx : in32 x) (hM : tlM T σ D) (hD : okTD D) (K : post (.inl (some (mI (rplace D.1 x)))) σ) : Tr Ls N 232 0 [some (mP (some 480)), some (mI (T : Int)), some (mI x), none, none] [] σ post :=
  s_232 hT hx hM.1.1 hD.2.1 hM.1.2.1 hD.i32 hD.2.2.2.1 K
theorem s_233D (hT : T < 4) (hx : in32 x) (hM : tlM T σ D) (hD : okTD D) (K : post (.inl (some (mI (rplace D.2.2.1 x)))) σ) : Tr Ls N 233 0 [some (mP (some 480)), some (mI (T : Int)), some (mI x), none, none] [] σ post :=
  s_233 hT hx hM.2.1.1 hD.2.2.1 hM.2.1.2.1 hD.s32 hD.2.2.2.2.1 K
theorem s_256 (hT : T < 4) (hx : x ∈ D.1) (hM : tlM T σ D) (hD : okTD D) (hS : meM σ els) (hl : els.length < 128) (K : ∀ σ', meM σ' (els ++ [wOf D x u]) → only cEl σ σ' → post (.inl none) σ') : Tr Ls N 256 0 [some (mP (some 480)), some (mI (T : Int)), some (mI x), some (mI u), none] [] σ post := by
  have hxi := hD.i32 x hx
  repeat (first | refine tr_mgr rfl (by decide) rfl ?_ | refine tr_mgi rfl (by decide) (by decide) rfl ?_ | refine tr_mv rfl (fun _ => rfl) ?_)
  refine tr_vc (q := 480) rfl isO_480 rfl rfl rfl (s_232D hT hxi hM hD ?_)
  rcases rplace_nat D.1 x with ⟨g1, g2⟩ | ⟨p, g1, g2, g3⟩
  · exact absurd hx g2
  · have h48 := hD.2.1
    have e1 : rget (w1 0 D.2.1) (p : Int) = (w1 0 D.2.1).getD p 0 := rget_nat (by rw [w1_len, ← hD.1]; exact g2)
    have e2 : rget (w2 1 D.2.1) (p : Int) = (w2 1 D.2.1).getD p 0 := rget_nat (by rw [w2_len, ← hD.1]; exact g2)
    have e3 : rget (w3 1 D.2.1) (p : Int) = (w3 1 D.2.1).getD p 0 := rget_nat (by rw [w3_len, ← hD.1]; exact g2)
    unfold wOf at K
    rw [g1] at K ⊢
    rw [e1, e2, e3] at K
    repeat (first | refine tr_mgr rfl (by decide) rfl ?_ | refine tr_mgi rfl (by decide) (by decide) rfl ?_ | refine tr_mv rfl (fun _ => rfl) ?_)
    refine tr_man (j := 48 * T + p) rfl (by omega) (by omega) rfl (fun _ => rfl) rfl rfl rfl ?_
    rw [hM.2.2.1.get (by rw [w1_len, ← hD.1]; exact g2)]
    repeat (first | refine tr_mgr rfl (by decide) rfl ?_ | refine tr_mgi rfl (by decide) (by decide) rfl ?_ | refine tr_mv rfl (fun _ => rfl) ?_)
    refine tr_man (j := 48 * T + p) rfl (by omega) (by omega) rfl (fun _ => rfl) rfl rfl rfl ?_
    rw [hM.2.2.2.1.get (by rw [w2_len, ← hD.1]; exact g2)]
    repeat (first | refine tr_mgr rfl (by decide) rfl ?_ | refine tr_mgi rfl (by decide) (by decide) rfl ?_ | refine tr_mv rfl (fun _ => rfl) ?_)
    refine tr_man (j := 48 * T + p) rfl (by omega) (by omega) rfl (fun _ => rfl) rfl rfl rfl ?_
    rw [hM.2.2.2.2.get (by rw [w3_len, ← hD.1]; exact g2)]
    repeat (first | refine tr_mgr rfl (by decide) rfl ?_ | refine tr_mgi rfl (by decide) (by decide) rfl ?_ | refine tr_mv rfl (fun _ => rfl) ?_)
    refine tr_vc (q := 480) rfl isO_480 rfl rfl rfl (s_255 hS hl (fun σ' k1 k2 => ?_))
    exact tr_ret rfl (fun _ => rfl) (K σ' k1 k2)
theorem s_257 (hT : T < 4) (hx : in32 x) (hM : tlM T σ D) (hD : okTD D) (K : post (.inl (some (mI (b2 (kn D x))))) σ) : Tr Ls N 257 0 [some (mP (some 480)), some (mI (T : Int)), some (mI x)] [] σ post := by
  have h48 := hD.2.1
  have h12 := hD.2.2.1
  repeat (first | refine tr_mgr rfl (by decide) rfl ?_ | refine tr_mgi rfl (by decide) (by decide) rfl ?_ | refine tr_mv rfl (fun _ => rfl) ?_)
  refine tr_vc (q := 480) rfl isO_480 rfl rfl rfl (s_232D hT hx hM hD ?_)
  iterate 1 (refine tr_mv rfl (fun _ => rfl) ?_)
  rcases rplace_or D.1 x with ⟨g1, g2⟩ | ⟨g1, g2, g3⟩
  · rw [g1]
    refine tr_cmp2 rfl (m32_of (x := -1) ⟨by decide, by decide⟩) (m32_of (x := -1) ⟨by decide, by decide⟩) (fun c1 => absurd rfl c1) (fun _ => ?_)
    repeat (first | refine tr_mgr rfl (by decide) rfl ?_ | refine tr_mgi rfl (by decide) (by decide) rfl ?_ | refine tr_mv rfl (fun _ => rfl) ?_)
    refine tr_vc (q := 480) rfl isO_480 rfl rfl rfl (s_233D hT hx hM hD ?_)
    iterate 1 (refine tr_mv rfl (fun _ => rfl) ?_)
    rcases rplace_or D.2.2.1 x with ⟨k1, k2⟩ | ⟨k1, k2, k3⟩
    · rw [k1]
      refine tr_cmp2 rfl (m32_of (x := -1) ⟨by decide, by decide⟩) (m32_of (x := -1) ⟨by decide, by decide⟩) (fun _ => ?_) (fun c1 => absurd rfl c1)
      iterate 1 (refine tr_mv rfl (fun _ => rfl) ?_)
      exact tr_rb0 rfl (fun g => g.elim g2 k2) K
    · refine tr_cmp2 rfl (m32_of (by omega)) (m32_of (x := -1) ⟨by decide, by decide⟩) (fun c1 => absurd c1 (by show ¬ _ = (-1 : Int); omega)) (fun _ => ?_)
      iterate 2 (refine tr_mv rfl (fun _ => rfl) ?_)
      exact tr_rb1 rfl (Or.inr k3) K
  · refine tr_cmp2 rfl (m32_of (by omega)) (m32_of (x := -1) ⟨by decide, by decide⟩) (fun _ => ?_) (fun c1 => absurd (show rplace D.1 x ≠ -1 by omega) c1)
    iterate 2 (refine tr_mv rfl (fun _ => rfl) ?_)
    exact tr_rb1 rfl (Or.inl g3) K
end MELS
