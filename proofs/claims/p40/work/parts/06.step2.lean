/-! Steps: stores, arithmetic, stack, branches. -/
section MS2
variable {p : Program} {l : Launch} {e : Env} {R : Room} {s : State} {m : MethodId} {args : Array Value} {below : List Frame} {meth : Method} {c : Code} {Q : State → Prop}
variable {cc : ByteArray} {own : String} {ini : Bool} {good : List Cond} {D : va_G} {cl : List vw_C} {n0 b mt : Nat} {cA : Nat → ClassId} {ft : Nat → Nat → Nat} {L0 : Nat} {xs : Nat → Int32} {strs : List (String × Nat × String)} {nw : List Cond}
variable {pc pc' : Nat} {L L' : mLs} {st st' : List mV} {h h' : mH} {cells slots dc ds : Nat} {fd : Nat → Nat → Int} {nf : Nat → Nat}
theorem menc_toInt (ad : Nat → Nat) (z : Int32) : menc ad (mI z.toInt) = .int z := by
  show Value.int (Int32.ofInt z.toInt) = .int z
  rw [Int32.ofInt_toInt]
theorem menc_toIntL (ad : Nat → Nat) (z : Int64) : menc ad (mJ z.toInt) = .long z := by
  show Value.long (Int64.ofInt z.toInt) = .long z
  rw [Int64.ofInt_toInt]
theorem menc_at (ad : Nat → Nat) (x : Int) (z : Int32) (hz : Int32.ofInt x = z) : menc ad (mI x) = .int z := by
  show Value.int (Int32.ofInt x) = .int z
  rw [hz]
theorem mst_ok {i : Nat} {v : mV} {r : List mV} {o : mO} (hs : mst i v pc' L r h = some o) : i < L.length ∧ mok i L = true ∧ o = .inl (pc', L.set i (some v), r, h, 0, 0) := by
  unfold mst at hs
  split at hs
  · rename_i hr
    cases hs
    exact ⟨hr.1, hr.2, rfl⟩
  · cases hs
theorem mF_stores {k : Fin 4} {a b' c' : Nat} (F : mFr p s m args meth c cc own ini good D cl n0 b mt cA ft L0 xs strs nw) (i : Instr) (hi : i = .istore_n k ∨ i = .astore_n k ∨ i = .lstore_n k) (hd : decode cc pc = .ok (i, 1))
    (hs : mstep fd nf (i, 1, a, b', c') pc L st h = some (.inl (pc', L', st', h', dc, ds)))
    (kk : mK p l e R s m args below meth c Q D cl n0 b mt cA ft L0 xs pc' L' st' h' (cells + dc) (slots + ds)) : mK p l e R s m args below meth c Q D cl n0 b mt cA ft L0 xs pc L st h cells slots := by
  obtain ⟨hx, hb, hown, hts, -, -, hSt⟩ := F
  intro ls H locs hL hI hR hS hz
  rcases hi with rfl | rfl | rfl
  · simp only [mstep] at hs
    unfold mi1 at hs
    split at hs
    · obtain ⟨h1, h2, h3⟩ := mst_ok hs
      cases h3
      exact lv_istore_n hx hb hd rfl hL.has h1 rfl fun ls' h' => kk ls' H locs (mLR.set1 hL h1 h2 rfl h') hI hR hS hz
    · cases hs
  · simp only [mstep] at hs
    unfold mp1 at hs
    split at hs
    · obtain ⟨h1, h2, h3⟩ := mst_ok hs
      cases h3
      exact lv_astore_n hx hb hd rfl hL.has h1 rfl fun ls' h' => kk ls' H locs (mLR.set1 hL h1 h2 rfl h') hI hR hS hz
    · cases hs
  · simp only [mstep, mnx] at hs
    split at hs
    · split at hs
      · rename_i hr
        cases hs
        exact lv_lstore_n hx hb hd rfl hL.has hr.1 rfl fun ls' h' => kk ls' H locs (mLR.set2 hL hr.1 hr.2 rfl h') hI hR hS hz
      · cases hs
    · cases hs
theorem mF_stores2 {k : Nat} {a b' c' : Nat} (F : mFr p s m args meth c cc own ini good D cl n0 b mt cA ft L0 xs strs nw) (i : Instr) (hi : i = .istore k ∨ i = .astore k ∨ i = .lstore k) (hd : decode cc pc = .ok (i, 2))
    (hs : mstep fd nf (i, 2, a, b', c') pc L st h = some (.inl (pc', L', st', h', dc, ds)))
    (kk : mK p l e R s m args below meth c Q D cl n0 b mt cA ft L0 xs pc' L' st' h' (cells + dc) (slots + ds)) : mK p l e R s m args below meth c Q D cl n0 b mt cA ft L0 xs pc L st h cells slots := by
  obtain ⟨hx, hb, hown, hts, -, -, hSt⟩ := F
  intro ls H locs hL hI hR hS hz
  rcases hi with rfl | rfl | rfl
  · simp only [mstep] at hs
    unfold mi1 at hs
    split at hs
    · obtain ⟨h1, h2, h3⟩ := mst_ok hs
      cases h3
      exact lv_istore hx hb hd hL.has h1 rfl fun ls' h' => kk ls' H locs (mLR.set1 hL h1 h2 rfl h') hI hR hS hz
    · cases hs
  · simp only [mstep] at hs
    unfold mp1 at hs
    split at hs
    · obtain ⟨h1, h2, h3⟩ := mst_ok hs
      cases h3
      exact lv_astore hx hb hd hL.has h1 rfl fun ls' h' => kk ls' H locs (mLR.set1 hL h1 h2 rfl h') hI hR hS hz
    · cases hs
  · simp only [mstep, mnx] at hs
    split at hs
    · split at hs
      · rename_i hr
        cases hs
        exact lv_lstore hx hb hd hL.has hr.1 rfl fun ls' h' => kk ls' H locs (mLR.set2 hL hr.1 hr.2 rfl h') hI hR hS hz
      · cases hs
    · cases hs
theorem mF_iinc {k : Nat} {x : Int} {a b' c' : Nat} (F : mFr p s m args meth c cc own ini good D cl n0 b mt cA ft L0 xs strs nw) (hd : decode cc pc = .ok (.iinc k x, 3))
    (hs : mstep fd nf (.iinc k x, 3, a, b', c') pc L st h = some (.inl (pc', L', st', h', dc, ds)))
    (kk : mK p l e R s m args below meth c Q D cl n0 b mt cA ft L0 xs pc' L' st' h' (cells + dc) (slots + ds)) : mK p l e R s m args below meth c Q D cl n0 b mt cA ft L0 xs pc L st h cells slots := by
  obtain ⟨hx, hb, hown, hts, -, -, hSt⟩ := F
  intro ls H locs hL hI hR hS hz
  simp only [mstep] at hs
  unfold mci at hs
  split at hs
  · rename_i y hy
    obtain ⟨h1, h2, h3⟩ := mst_ok hs
    cases h3
    obtain ⟨j, hj⟩ := List.getElem?_of_mem (mlv_mem (ad := mad n0 b mt) hy)
    exact lv_iinc hx hb hd hL.has hj rfl h1 rfl fun ls' h' => kk ls' H locs (mLR.set1 hL h1 h2 (by show Value.int (Int32.ofInt (y + x)) = _; rw [Int32.ofInt_add]) h') hI hR hS hz
  · cases hs
theorem mne0 {y : Int} (h : ¬ m32 y = 0) : ¬ Int32.ofInt y = 0 := fun e => h (by unfold m32; rw [e]; rfl)
theorem mF_arith {a b' c' : Nat} (F : mFr p s m args meth c cc own ini good D cl n0 b mt cA ft L0 xs strs nw) (i : Instr) (hi : i = .iadd ∨ i = .isub ∨ i = .imul ∨ i = .idiv ∨ i = .irem ∨ i = .iand ∨ i = .ior ∨ i = .ishl ∨ i = .ishr ∨ i = .iushr) (hd : decode cc pc = .ok (i, 1))
    (hs : mstep fd nf (i, 1, a, b', c') pc L st h = some (.inl (pc', L', st', h', dc, ds)))
    (kk : mK p l e R s m args below meth c Q D cl n0 b mt cA ft L0 xs pc' L' st' h' (cells + dc) (slots + ds)) : mK p l e R s m args below meth c Q D cl n0 b mt cA ft L0 xs pc L st h cells slots := by
  obtain ⟨hx, hb, hown, hts, -, -, hSt⟩ := F
  intro ls H locs hL hI hR hS hz
  have k9 := kk ls H locs
  rcases hi with rfl | rfl | rfl | rfl | rfl | rfl | rfl | rfl | rfl | rfl <;>
  · simp only [mstep] at hs
    unfold mi2 at hs
    split at hs
    · try dsimp only at hs
      try split at hs
      all_goals first
        | (cases hs; done)
        | (unfold mnx at hs
           cases hs
           have k8 := k9 hL hI hR hS hz
           first
           | (rw [List.map_cons, menc_at _ _ _ (Int32.ofInt_add _ _)] at k8; exact lv_iadd hx hb hd k8)
           | (rw [List.map_cons, menc_at _ _ _ (Int32.ofInt_sub _ _)] at k8; exact lv_isub hx hb hd k8)
           | (rw [List.map_cons, menc_at _ _ _ (Int32.ofInt_mul _ _)] at k8; exact lv_imul hx hb hd k8)
           | (rw [List.map_cons, menc_toInt] at k8
              first
              | exact lv_idiv hx hb hd (mne0 (by assumption)) k8
              | exact lv_irem hx hb hd (mne0 (by assumption)) k8
              | exact lv_iand hx hb hd k8
              | exact lv_ior hx hb hd k8
              | exact lv_ishl hx hb hd k8
              | exact lv_ishr hx hb hd k8
              | exact lv_iushr hx hb hd rfl k8))
    · cases hs
theorem mF_ineg {a b' c' : Nat} (F : mFr p s m args meth c cc own ini good D cl n0 b mt cA ft L0 xs strs nw) (hd : decode cc pc = .ok (.ineg, 1))
    (hs : mstep fd nf (.ineg, 1, a, b', c') pc L st h = some (.inl (pc', L', st', h', dc, ds)))
    (kk : mK p l e R s m args below meth c Q D cl n0 b mt cA ft L0 xs pc' L' st' h' (cells + dc) (slots + ds)) : mK p l e R s m args below meth c Q D cl n0 b mt cA ft L0 xs pc L st h cells slots := by
  obtain ⟨hx, hb, hown, hts, -, -, hSt⟩ := F
  intro ls H locs hL hI hR hS hz
  have k9 := kk ls H locs
  simp only [mstep, mnx] at hs
  unfold mi1 at hs
  split at hs
  · cases hs
    have k8 := k9 hL hI hR hS hz
    rw [List.map_cons, menc_at _ _ _ (Int32.ofInt_neg _)] at k8
    exact lv_ineg hx hb hd k8
  · cases hs
theorem mlg (u v : Int) : Int32.ofInt (if u < v then -1 else if u = v then 0 else 1) = if v < u then 1 else if u = v then 0 else -1 := by
  by_cases h1 : u < v
  · rw [if_pos h1, if_neg (by omega), if_neg (by omega)]; rfl
  · by_cases h2 : u = v
    · rw [if_neg h1, if_pos h2, if_neg (by omega), if_pos h2]; rfl
    · rw [if_neg h1, if_neg h2, if_pos (by omega)]; rfl
theorem mF_longs {a b' c' : Nat} (F : mFr p s m args meth c cc own ini good D cl n0 b mt cA ft L0 xs strs nw) (i : Instr) (hi : i = .i2l ∨ i = .lcmp ∨ i = .land ∨ i = .lor ∨ i = .lshl ∨ i = .lshr) (hd : decode cc pc = .ok (i, 1))
    (hs : mstep fd nf (i, 1, a, b', c') pc L st h = some (.inl (pc', L', st', h', dc, ds)))
    (kk : mK p l e R s m args below meth c Q D cl n0 b mt cA ft L0 xs pc' L' st' h' (cells + dc) (slots + ds)) : mK p l e R s m args below meth c Q D cl n0 b mt cA ft L0 xs pc L st h cells slots := by
  obtain ⟨hx, hb, hown, hts, -, -, hSt⟩ := F
  intro ls H locs hL hI hR hS hz
  have k9 := kk ls H locs
  rcases hi with rfl | rfl | rfl | rfl | rfl | rfl
  · simp only [mstep, mnx] at hs
    unfold mi1 at hs
    split at hs
    · cases hs
      have k8 := k9 hL hI hR hS hz
      refine lv_i2l hx hb hd ?_ k8
      rename_i x r
      show _ = Int64.ofInt (Int32.ofInt x).toInt
      rw [← Int64.toInt_inj, Int32.toInt_toInt64, Int64.toInt_ofInt_of_le (by have := Int32.le_toInt (Int32.ofInt x); omega) (by have := Int32.toInt_lt (Int32.ofInt x); omega)]
    · cases hs
  · simp only [mstep, mnx] at hs
    unfold mj2 at hs
    split at hs
    · cases hs
      have k8 := k9 hL hI hR hS hz
      rename_i y x r
      rw [List.map_cons, menc_at _ _ (lg_cmp (Int64.ofInt x) (Int64.ofInt y)) (by
        unfold lg_cmp m64
        simp only [Int64.lt_iff_toInt_lt, ← Int64.toInt_inj]
        exact mlg _ _)] at k8
      exact W.lcmp hx hb hd k8
    · cases hs
  · simp only [mstep, mnx] at hs
    unfold mj2 at hs
    split at hs
    · cases hs
      have k8 := k9 hL hI hR hS hz
      rw [List.map_cons, menc_toIntL] at k8
      exact lv_land hx hb hd k8
    · cases hs
  · simp only [mstep, mnx] at hs
    unfold mj2 at hs
    split at hs
    · cases hs
      have k8 := k9 hL hI hR hS hz
      rw [List.map_cons, menc_toIntL] at k8
      exact lv_lor hx hb hd k8
    · cases hs
  · simp only [mstep, mnx] at hs
    unfold mji at hs
    split at hs
    · cases hs
      have k8 := k9 hL hI hR hS hz
      rw [List.map_cons, menc_toIntL] at k8
      exact lv_lshl hx hb hd rfl k8
    · cases hs
  · simp only [mstep, mnx] at hs
    unfold mji at hs
    split at hs
    · cases hs
      have k8 := k9 hL hI hR hS hz
      rw [List.map_cons, menc_toIntL] at k8
      exact lv_lshr hx hb hd rfl k8
    · cases hs
theorem mF_stack {a b' c' : Nat} (F : mFr p s m args meth c cc own ini good D cl n0 b mt cA ft L0 xs strs nw) (i : Instr) (hi : i = .dup ∨ i = .dup2 ∨ i = .pop) (hd : decode cc pc = .ok (i, 1))
    (hs : mstep fd nf (i, 1, a, b', c') pc L st h = some (.inl (pc', L', st', h', dc, ds)))
    (kk : mK p l e R s m args below meth c Q D cl n0 b mt cA ft L0 xs pc' L' st' h' (cells + dc) (slots + ds)) : mK p l e R s m args below meth c Q D cl n0 b mt cA ft L0 xs pc L st h cells slots := by
  obtain ⟨hx, hb, hown, hts, -, -, hSt⟩ := F
  intro ls H locs hL hI hR hS hz
  have k9 := kk ls H locs
  rcases hi with rfl | rfl | rfl
  · simp only [mstep, mnx] at hs
    split at hs
    · split at hs
      · cases hs
        exact lv_dup hx hb hd (menc_cat1 _ (by assumption)) (k9 hL hI hR hS hz)
      · cases hs
    · cases hs
  · simp only [mstep, mnx] at hs
    split at hs
    · split at hs
      · rename_i hr
        cases hs
        exact lv_dup2_11 hx hb hd (menc_cat1 _ hr.1) (menc_cat1 _ hr.2) (k9 hL hI hR hS hz)
      · cases hs
    · cases hs
  · simp only [mstep, mnx] at hs
    split at hs
    · split at hs
      · cases hs
        exact lv_pop hx hb hd (menc_cat1 _ (by assumption)) (k9 hL hI hR hS hz)
      · cases hs
    · cases hs
theorem mF_goto {a b' c' : Nat} {off : Int} (F : mFr p s m args meth c cc own ini good D cl n0 b mt cA ft L0 xs strs nw) (hd : decode cc pc = .ok (.goto off, 3)) (ht : (pc : Int) + off = (a : Int))
    (hs : mstep fd nf (.goto off, 3, a, b', c') pc L st h = some (.inl (pc', L', st', h', dc, ds)))
    (kk : mK p l e R s m args below meth c Q D cl n0 b mt cA ft L0 xs pc' L' st' h' (cells + dc) (slots + ds)) : mK p l e R s m args below meth c Q D cl n0 b mt cA ft L0 xs pc L st h cells slots := by
  obtain ⟨hx, hb, hown, hts, -, -, hSt⟩ := F
  intro ls H locs hL hI hR hS hz
  simp only [mstep, mnx] at hs
  cases hs
  exact lv_goto hx hb hd ht (kk ls H locs hL hI hR hS hz)
theorem mF_if {a b' c' : Nat} {off : Int} {cd : Jvm.ClassFile.Cond} (F : mFr p s m args meth c cc own ini good D cl n0 b mt cA ft L0 xs strs nw) (hd : decode cc pc = .ok (.ifCond cd off, 3)) (ht : (pc : Int) + off = (a : Int))
    (hs : mstep fd nf (.ifCond cd off, 3, a, b', c') pc L st h = some (.inl (pc', L', st', h', dc, ds)))
    (kk : mK p l e R s m args below meth c Q D cl n0 b mt cA ft L0 xs pc' L' st' h' (cells + dc) (slots + ds)) : mK p l e R s m args below meth c Q D cl n0 b mt cA ft L0 xs pc L st h cells slots := by
  obtain ⟨hx, hb, hown, hts, -, -, hSt⟩ := F
  intro ls H locs hL hI hR hS hz
  simp only [mstep] at hs
  unfold mi1 at hs
  split at hs
  · rename_i x r
    have k9 := kk ls H locs
    unfold mif mcnd m32 mnx at hs
    have e0 : Int32.ofInt x = 0 ↔ (Int32.ofInt x).toInt = 0 := by rw [← Int32.toInt_inj]; rfl
    have e1 : Int32.ofInt x < 0 ↔ (Int32.ofInt x).toInt < 0 := by rw [Int32.lt_iff_toInt_lt]; rfl
    have e2 : 0 ≤ Int32.ofInt x ↔ 0 ≤ (Int32.ofInt x).toInt := by rw [Int32.le_iff_toInt_le]; rfl
    have e3 : 0 < Int32.ofInt x ↔ 0 < (Int32.ofInt x).toInt := by rw [Int32.lt_iff_toInt_lt]; rfl
    have e4 : Int32.ofInt x ≤ 0 ↔ (Int32.ofInt x).toInt ≤ 0 := by rw [Int32.le_iff_toInt_le]; rfl
    cases cd <;> simp only [decide_eq_true_eq] at hs <;> split at hs <;> cases hs
    · exact lv_if_eq hx hb hd ht (fun _ => k9 hL hI hR hS hz) (fun q => absurd (e0.mpr (by assumption)) q)
    · exact lv_if_eq hx hb hd ht (fun q => absurd (e0.mp q) (by assumption)) (fun _ => k9 hL hI hR hS hz)
    · exact lv_if_ne hx hb hd ht (fun _ => k9 hL hI hR hS hz) (fun q => absurd (e0.mp q) (by assumption))
    · rename_i hn
      exact lv_if_ne hx hb hd ht (fun q => absurd (e0.mpr (Decidable.not_not.mp hn)) q) (fun _ => k9 hL hI hR hS hz)
    · exact lv_if_lt hx hb hd ht (fun _ => k9 hL hI hR hS hz) (fun q => absurd (e1.mpr (by assumption)) q)
    · exact lv_if_lt hx hb hd ht (fun q => absurd (e1.mp q) (by assumption)) (fun _ => k9 hL hI hR hS hz)
    · exact lv_if_ge hx hb hd ht (fun _ => k9 hL hI hR hS hz) (fun q => absurd (e2.mpr (by assumption)) q)
    · exact lv_if_ge hx hb hd ht (fun q => absurd (e2.mp q) (by assumption)) (fun _ => k9 hL hI hR hS hz)
    · exact lv_if_gt hx hb hd ht (fun _ => k9 hL hI hR hS hz) (fun q => absurd (e3.mpr (by assumption)) q)
    · exact lv_if_gt hx hb hd ht (fun q => absurd (e3.mp q) (by assumption)) (fun _ => k9 hL hI hR hS hz)
    · exact lv_if_le hx hb hd ht (fun _ => k9 hL hI hR hS hz) (fun q => absurd (e4.mpr (by assumption)) q)
    · exact lv_if_le hx hb hd ht (fun q => absurd (e4.mp q) (by assumption)) (fun _ => k9 hL hI hR hS hz)
  · cases hs
theorem mF_icmp {a b' c' : Nat} {off : Int} {cd : Jvm.ClassFile.Cond} (F : mFr p s m args meth c cc own ini good D cl n0 b mt cA ft L0 xs strs nw) (hd : decode cc pc = .ok (.if_icmp cd off, 3)) (ht : (pc : Int) + off = (a : Int))
    (hs : mstep fd nf (.if_icmp cd off, 3, a, b', c') pc L st h = some (.inl (pc', L', st', h', dc, ds)))
    (kk : mK p l e R s m args below meth c Q D cl n0 b mt cA ft L0 xs pc' L' st' h' (cells + dc) (slots + ds)) : mK p l e R s m args below meth c Q D cl n0 b mt cA ft L0 xs pc L st h cells slots := by
  obtain ⟨hx, hb, hown, hts, -, -, hSt⟩ := F
  intro ls H locs hL hI hR hS hz
  simp only [mstep] at hs
  unfold mi2 at hs
  split at hs
  · rename_i y x r
    have k9 := kk ls H locs
    unfold mif mcnd m32 mnx at hs
    have e0 : Int32.ofInt x = Int32.ofInt y ↔ (Int32.ofInt x).toInt = (Int32.ofInt y).toInt := by rw [← Int32.toInt_inj]
    have e1 : Int32.ofInt x < Int32.ofInt y ↔ (Int32.ofInt x).toInt < (Int32.ofInt y).toInt := by rw [Int32.lt_iff_toInt_lt]
    have e2 : Int32.ofInt y ≤ Int32.ofInt x ↔ (Int32.ofInt y).toInt ≤ (Int32.ofInt x).toInt := by rw [Int32.le_iff_toInt_le]
    have e3 : Int32.ofInt y < Int32.ofInt x ↔ (Int32.ofInt y).toInt < (Int32.ofInt x).toInt := by rw [Int32.lt_iff_toInt_lt]
    have e4 : Int32.ofInt x ≤ Int32.ofInt y ↔ (Int32.ofInt x).toInt ≤ (Int32.ofInt y).toInt := by rw [Int32.le_iff_toInt_le]
    cases cd <;> simp only [decide_eq_true_eq] at hs <;> split at hs <;> cases hs
    · exact lv_icmp_eq hx hb hd ht (fun _ => k9 hL hI hR hS hz) (fun q => absurd (e0.mpr (by assumption)) q)
    · exact lv_icmp_eq hx hb hd ht (fun q => absurd (e0.mp q) (by assumption)) (fun _ => k9 hL hI hR hS hz)
    · exact lv_icmp_ne hx hb hd ht (fun _ => k9 hL hI hR hS hz) (fun q => absurd (e0.mp q) (by assumption))
    · rename_i hn
      exact lv_icmp_ne hx hb hd ht (fun q => absurd (e0.mpr (Decidable.not_not.mp hn)) q) (fun _ => k9 hL hI hR hS hz)
    · exact lv_icmp_lt hx hb hd ht (fun _ => k9 hL hI hR hS hz) (fun q => absurd (e1.mpr (by assumption)) q)
    · exact lv_icmp_lt hx hb hd ht (fun q => absurd (e1.mp q) (by assumption)) (fun _ => k9 hL hI hR hS hz)
    · exact lv_icmp_ge hx hb hd ht (fun _ => k9 hL hI hR hS hz) (fun q => absurd (e2.mpr (by assumption)) q)
    · exact lv_icmp_ge hx hb hd ht (fun q => absurd (e2.mp q) (by assumption)) (fun _ => k9 hL hI hR hS hz)
    · exact lv_icmp_gt hx hb hd ht (fun _ => k9 hL hI hR hS hz) (fun q => absurd (e3.mpr (by assumption)) q)
    · exact lv_icmp_gt hx hb hd ht (fun q => absurd (e3.mp q) (by assumption)) (fun _ => k9 hL hI hR hS hz)
    · exact lv_icmp_le hx hb hd ht (fun _ => k9 hL hI hR hS hz) (fun q => absurd (e4.mpr (by assumption)) q)
    · exact lv_icmp_le hx hb hd ht (fun q => absurd (e4.mp q) (by assumption)) (fun _ => k9 hL hI hR hS hz)
  · cases hs
theorem mF_table {a b' c' n : Nat} {df lo hi : Int} {offs : Array Int} (F : mFr p s m args meth c cc own ini good D cl n0 b mt cA ft L0 xs strs nw) (hd : decode cc pc = .ok (.tableswitch df lo hi offs, n))
    (hs : mstep fd nf (.tableswitch df lo hi offs, n, a, b', c') pc L st h = some (.inl (pc', L', st', h', dc, ds)))
    (kk : mK p l e R s m args below meth c Q D cl n0 b mt cA ft L0 xs pc' L' st' h' (cells + dc) (slots + ds)) : mK p l e R s m args below meth c Q D cl n0 b mt cA ft L0 xs pc L st h cells slots := by
  obtain ⟨hx, hb, hown, hts, -, -, hSt⟩ := F
  intro ls H locs hL hI hR hS hz
  simp only [mstep] at hs
  unfold mi1 at hs
  split at hs
  · rename_i x r
    have k9 := kk ls H locs
    unfold m32 mnx at hs
    dsimp only at hs
    split at hs
    · rename_i ho
      split at hs
      · rename_i h0
        cases hs
        exact lv_tableOut hx hb hd ho (Int.toNat_of_nonneg h0).symm (k9 hL hI hR hS hz)
      · cases hs
    · rename_i ho
      split at hs
      · rename_i off hoff
        split at hs
        · rename_i h0
          cases hs
          exact lv_tableIn hx hb hd (fun q => ho (Or.inl q)) (fun q => ho (Or.inr q)) hoff (Int.toNat_of_nonneg h0).symm (k9 hL hI hR hS hz)
        · cases hs
      · cases hs
  · cases hs
end MS2
