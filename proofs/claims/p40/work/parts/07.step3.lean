/-! Steps: fields, arrays, new things. -/
section MS3
variable {p : Program} {l : Launch} {e : Env} {R : Room} {s : State} {m : MethodId} {args : Array Value} {below : List Frame} {meth : Method} {c : Code} {Q : State → Prop}
variable {cc : ByteArray} {own : String} {ini : Bool} {good : List Cond} {D : va_G} {cl : List vw_C} {n0 b mt : Nat} {cA : Nat → ClassId} {ft : Nat → Nat → Nat} {L0 : Nat} {xs : Nat → Int32} {strs : List (String × Nat × String)} {nw : List Cond}
variable {pc pc' : Nat} {L L' : mLs} {st st' : List mV} {h h' : mH} {cells slots dc ds : Nat} {fd : Nat → Nat → Int} {nf : Nat → Nat}
theorem msz_ok {a kd n : Nat} (hs : msz h a kd = some n) : h.1[a]? = some (kd, n) := by
  unfold msz at hs
  split at hs
  · rename_i k n' hk
    split at hs
    · rename_i he
      cases hs
      rw [hk, he]
    · cases hs
  · cases hs
theorem mF_getfield {idx a b' c' : Nat} {q : vw_C} (F : mFr p s m args meth c cc own ini good D cl n0 b mt cA ft L0 xs strs nw) (hd : decode cc pc = .ok (.getfield idx, 3))
    (hc : cl[a]? = some q) (hk : b' < q.2.2) (hw : Cond.fieldLink own idx (q.2.1 b').1 (q.2.1 b').2.1 (q.2.1 b').2.2.1 ∈ good) (hft : ft a b' = c')
    (hs : mstep fd nf (.getfield idx, 3, a, b', c') pc L st h = some (.inl (pc', L', st', h', dc, ds)))
    (kk : mK p l e R s m args below meth c Q D cl n0 b mt cA ft L0 xs pc' L' st' h' (cells + dc) (slots + ds)) : mK p l e R s m args below meth c Q D cl n0 b mt cA ft L0 xs pc L st h cells slots := by
  obtain ⟨hx, hb, hown, hts, -, hCl, hSt⟩ := F
  intro ls H locs hL hI hR hS hz
  simp only [mstep, mnx] at hs
  unfold mp1 at hs
  split at hs
  · rename_i o r
    dsimp only at hs
    split at hs
    · rename_i N hN
      split at hs
      · rename_i hb2
        have hg := mws_get (n0 := n0) (ad := mad n0 b mt) (cA := cA) (ft := ft) hb2.1 (msz_ok hN)
        rw [mcell_o] at hg
        have hv : ((List.range N).map fun j => mfv (mad n0 b mt) (ft a j) (h.2.1 o j))[b']? = some (mfv (mad n0 b mt) (ft a b') (h.2.1 o b')) := by
          rw [List.getElem?_map, List.getElem?_range hb2.2]; rfl
        have key : ∀ K, W p l e R s m args below meth c H locs cells slots Q (F0 m (pc + 3) ls (mfv (mad n0 b mt) (ft a b') (h.2.1 o b') :: K)) → W p l e R s m args below meth c H locs cells slots Q (F0 m pc ls (.ref (mad n0 b mt o) :: K)) := by
          intro K k8
          rw [mad_ge hb2.1]
          exact va_get hx hb hts (hCl a q hc).1 hown hSt.1 hR.1 (o - 2) hg hc b' hk (hts _ hw) (fun _ h9 => h9) hv hd k8
        split at hs
        · rename_i hc1
          split at hs
          · rename_i h0
            cases hs
            refine key _ ?_
            have k8 := kk ls H locs hL hI hR hS hz
            rw [hft, hc1]
            have e1 : mfv (mad n0 b mt) 1 (h.2.1 o b') = .ref (mad n0 b mt (h.2.1 o b').toNat) := by
              unfold mfv mro
              rw [if_pos rfl, if_neg (by omega)]
              rfl
            rw [e1]
            exact k8
          · cases hs
        · rename_i hc1
          cases hs
          refine key _ ?_
          have k8 := kk ls H locs hL hI hR hS hz
          have e1 : mfv (mad n0 b mt) (ft a b') (h.2.1 o b') = .int (Int32.ofInt (h.2.1 o b')) := by
            unfold mfv
            rw [hft, if_neg hc1]
          rw [e1]
          exact k8
      · cases hs
    · cases hs
  · cases hs
theorem mRel_set {o kd n i : Nat} {x : Int} {H1 : Heap} {ev : va_E} (ho : 2 ≤ o) (hk : h.1[o]? = some (kd, n)) (he : mcell (mad n0 b mt) cA ft kd n (fun j => if j = i then x else h.2.1 o j) = ev)
    (hP : va_P D cl ((mws n0 (mad n0 b mt) cA ft h).set (o - 2) (n0 + (o - 2), ev)) H1) (hD : va_D (fun q => n0 ≤ q) ((mws n0 (mad n0 b mt) cA ft h).set (o - 2) (n0 + (o - 2), ev))) : mRel D cl n0 (mad n0 b mt) cA ft (h.1, mup h.2.1 o i x, h.2.2) H1 := by
  unfold mRel
  rw [mws_set ho hk he]
  exact ⟨hP, hD⟩
theorem mF_putfield {idx a b' c' : Nat} {q : vw_C} (F : mFr p s m args meth c cc own ini good D cl n0 b mt cA ft L0 xs strs nw) (hd : decode cc pc = .ok (.putfield idx, 3))
    (hc : cl[a]? = some q) (hk : b' < q.2.2) (hw : Cond.fieldLink own idx (q.2.1 b').1 (q.2.1 b').2.1 (q.2.1 b').2.2.1 ∈ good) (hft : ft a b' = c') (hfin : (q.2.1 b').2.2.2 = false ∨ ((q.2.1 b').2.2.2 = true ∧ ini = true ∧ (q.2.1 b').1 = own))
    (hs : mstep fd nf (.putfield idx, 3, a, b', c') pc L st h = some (.inl (pc', L', st', h', dc, ds)))
    (kk : mK p l e R s m args below meth c Q D cl n0 b mt cA ft L0 xs pc' L' st' h' (cells + dc) (slots + ds)) : mK p l e R s m args below meth c Q D cl n0 b mt cA ft L0 xs pc L st h cells slots := by
  obtain ⟨hx, hb, hown, hts, hini, hCl, hSt⟩ := F
  intro ls H locs hL hI hR hS hz
  obtain ⟨hin, hnm, ty, hty⟩ := hCl a q hc
  have key : ∀ (o N : Nat) (x : Int) (v : Value) (K : List Value), 2 ≤ o → b' < N → h.1[o]? = some (16 + a, N) → mfv (mad n0 b mt) (ft a b') x = v → narrow (ty b') v = v → fits (ty b') v = true →
      (∀ H1 locs1, mRel D cl n0 (mad n0 b mt) cA ft (h.1, mup h.2.1 o b' x, h.2.2) H1 → va_S (fun q => n0 ≤ q) s.heap H1 locs1 → W p l e R s m args below meth c H1 locs1 cells slots Q (F0 m (pc + 3) ls K)) → W p l e R s m args below meth c H locs cells slots Q (F0 m pc ls (v :: .ref (mad n0 b mt o) :: K)) := by
    intro o N x v K ho hbN hN hv hn hf k8
    rw [mad_ge ho]
    have hg := mws_get (n0 := n0) (ad := mad n0 b mt) (cA := cA) (ft := ft) ho hN
    rw [mcell_o] at hg
    have hlen : b' < ((List.range N).map fun j => mfv (mad n0 b mt) (ft a j) (h.2.1 o j)).length := by simpa using hbN
    have k7 : ∀ (H1 : Heap) (locs1 : List Loc), va_P D cl ((mws n0 (mad n0 b mt) cA ft h).set (o - 2) (n0 + (o - 2), .inr (a, ((List.range N).map fun j => mfv (mad n0 b mt) (ft a j) (h.2.1 o j)).set b' v))) H1 → va_D (fun q => n0 ≤ q) ((mws n0 (mad n0 b mt) cA ft h).set (o - 2) (n0 + (o - 2), .inr (a, ((List.range N).map fun j => mfv (mad n0 b mt) (ft a j) (h.2.1 o j)).set b' v))) → va_S (fun q => n0 ≤ q) s.heap H1 locs1 → W p l e R s m args below meth c H1 locs1 cells slots Q (F0 m (pc + 3) ls K) :=
      fun H1 locs1 hP1 hD1 hS1 => k8 H1 locs1 (mRel_set ho hN (by rw [mcell_o, mfv_set, hv]) hP1 hD1) hS1
    rcases hfin with h1 | ⟨h1, h2, h3⟩
    · exact va_put hx hb hts hin ty (fun k hk => (hty k hk).1) hnm hown hSt.1 hR.1 hR.2 hS (o - 2) hg hc b' hk (hts _ hw) (fun _ h9 => h9) h1 (hty b' hk).1 hn hf hlen hd k7
    · exact va_putF hx hb hts hin ty (fun k hk => (hty k hk).1) hnm hown hSt.1 hR.1 hR.2 hS (o - 2) hg hc b' hk (hts _ hw) (fun _ h9 => h9) h1 (hini h2) h3 (hty b' hk).1 hn hf hlen hd k7
  simp only [mstep, mnx] at hs
  split at hs
  · rename_i x o r
    split at hs
    · rename_i N hN
      split at hs
      · rename_i hr
        cases hs
        refine key o N x (.int (Int32.ofInt x)) _ hr.1 hr.2.1 (msz_ok hN) ?_ ?_ ?_ (fun H1 locs1 hR1 hS1 => kk ls H1 locs1 hL (hI.up hr.1) hR1 hS1 hz)
        · unfold mfv
          rw [if_neg (by rw [hft]; omega)]
        · rcases hr.2.2 with h0 | ⟨h0, h1 | h1⟩
          · rcases (hty b' hk).2 with ⟨g1, -⟩ | ⟨g1, g2⟩ | ⟨g1, -⟩
            · omega
            · rw [g2]; rfl
            · omega
          all_goals
            rcases (hty b' hk).2 with ⟨g1, -⟩ | ⟨g1, g2⟩ | ⟨g1, g2⟩
            · omega
            · omega
            · rw [g2, h1]; decide
        · rcases hr.2.2 with h0 | ⟨h0, h1 | h1⟩
          · rcases (hty b' hk).2 with ⟨g1, -⟩ | ⟨g1, g2⟩ | ⟨g1, -⟩
            · omega
            · rw [g2]; rfl
            · omega
          all_goals
            rcases (hty b' hk).2 with ⟨g1, -⟩ | ⟨g1, g2⟩ | ⟨g1, g2⟩
            · omega
            · omega
            · rw [g2, h1]; decide
      · cases hs
    · cases hs
  · rename_i v o r
    split at hs
    · rename_i N hN
      split at hs
      · rename_i hr
        cases hs
        have hy : (∃ n, ty b' = .object n) ∨ ∃ t, ty b' = .array t := by
          rcases (hty b' hk).2 with ⟨g1, g2⟩ | ⟨g1, g2⟩ | ⟨g1, g2⟩
          · exact g2
          · omega
          · omega
        refine key o N v (.ref (mad n0 b mt v)) _ hr.1 hr.2.1 (msz_ok hN) ?_ ?_ ?_ (fun H1 locs1 hR1 hS1 => kk ls H1 locs1 hL (hI.up hr.1) hR1 hS1 hz)
        · unfold mfv mro
          rw [if_pos (by rw [hft]; exact hr.2.2), if_neg (by omega)]
          rfl
        · rcases hy with ⟨n, g⟩ | ⟨t, g⟩ <;> rw [g] <;> rfl
        · rcases hy with ⟨n, g⟩ | ⟨t, g⟩ <;> rw [g] <;> rfl
      · cases hs
    · cases hs
  · cases hs
theorem mF_getstatic {idx a b' c' : Nat} (F : mFr p s m args meth c cc own ini good D cl n0 b mt cA ft L0 xs strs nw) (hd : decode cc pc = .ok (.getstatic idx, 3))
    (hw : Cond.fieldLink own idx "Collationer" "MARK_CLASSES" "[I" ∈ good)
    (hs : mstep fd nf (.getstatic idx, 3, a, b', c') pc L st h = some (.inl (pc', L', st', h', dc, ds)))
    (kk : mK p l e R s m args below meth c Q D cl n0 b mt cA ft L0 xs pc' L' st' h' (cells + dc) (slots + ds)) : mK p l e R s m args below meth c Q D cl n0 b mt cA ft L0 xs pc L st h cells slots := by
  obtain ⟨hx, hb, hown, hts, hini, hCl, hSt⟩ := F
  intro ls H locs hL hI hR hS hz
  simp only [mstep, mnx] at hs
  cases hs
  exact va_gets hx hb hSt.2.2.1 hS hown (hts _ hw) (fun _ h9 => h9) hd (kk ls H locs hL hI hR hS hz)
theorem min_of {x : Int} {n : Nat} (h1 : 0 ≤ m32 x) (h2 : m32 x < n) : vp_in (Int32.ofInt x) n := vp_in_iff.mpr ⟨h1, h2⟩
theorem mF_alen {a b' c' : Nat} (F : mFr p s m args meth c cc own ini good D cl n0 b mt cA ft L0 xs strs nw) (hd : decode cc pc = .ok (.arraylength, 1))
    (hs : mstep fd nf (.arraylength, 1, a, b', c') pc L st h = some (.inl (pc', L', st', h', dc, ds)))
    (kk : mK p l e R s m args below meth c Q D cl n0 b mt cA ft L0 xs pc' L' st' h' (cells + dc) (slots + ds)) : mK p l e R s m args below meth c Q D cl n0 b mt cA ft L0 xs pc L st h cells slots := by
  obtain ⟨hx, hb, hown, hts, hini, hCl, hK, hX, hZ, hT, hU, hN, hbn, hns, hL0, -, -⟩ := F
  intro ls H locs hL hI hR hS hz
  simp only [mstep, mnx] at hs
  unfold mp1 at hs
  split at hs
  · rename_i o r
    dsimp only at hs
    split at hs
    · rename_i k N hk
      split at hs
      · rename_i hr
        cases hs
        have k8 := kk ls H locs hL hI hR hS hz
        match o, hk with
        | 0, hk =>
          obtain ⟨i1, -⟩ := hI
          rw [i1] at hk
          cases hk
          exact va_slen hx hb hX (Nat.lt_of_lt_of_le hbn hns) (by show ¬ n0 ≤ b; omega) hS hd k8
        | 1, hk =>
          obtain ⟨-, i1, -⟩ := hI
          rw [i1] at hk
          cases hk
          exact va_tlen hx hb hT hS rfl hd k8
        | o + 2, hk =>
          have hg := mws_get (n0 := n0) (ad := mad n0 b mt) (cA := cA) (ft := ft) (show 2 ≤ o + 2 by omega) hk
          rcases (show k < 2 ∨ k = 2 ∨ (2 < k ∧ k < 7) by omega) with h1 | h1 | h1
          · rw [mcell_i h1] at hg
            exact va_alen hx hb hK hR.1 o k hg (mty_get (by omega)) (by rfl) hd k8
          · subst h1
            rw [mcell_l] at hg
            exact va_alen hx hb hK hR.1 o 2 hg (mty_get (by omega)) (by rfl) hd k8
          · rw [mcell_q h1.1 (by omega)] at hg
            exact va_alen hx hb hK hR.1 o k hg (mty_get h1.2) (by rfl) hd k8
      · cases hs
    · cases hs
  · cases hs
theorem mrd_ok {kd o : Nat} {x : Int} {f : Int → Option mO} {r : mO} (hs : mrd h kd o x f = some r) : ∃ n, h.1[o]? = some (kd, n) ∧ 0 ≤ m32 x ∧ m32 x < n ∧ f (h.2.1 o (m32 x).toNat) = some r := by
  unfold mrd at hs
  split at hs
  · rename_i n hn
    split at hs
    · rename_i hr
      exact ⟨n, msz_ok hn, hr.1, hr.2, hs⟩
    · cases hs
  · cases hs
theorem mF_iaload {a b' c' : Nat} (F : mFr p s m args meth c cc own ini good D cl n0 b mt cA ft L0 xs strs nw) (hd : decode cc pc = .ok (.iaload, 1))
    (hs : mstep fd nf (.iaload, 1, a, b', c') pc L st h = some (.inl (pc', L', st', h', dc, ds)))
    (kk : mK p l e R s m args below meth c Q D cl n0 b mt cA ft L0 xs pc' L' st' h' (cells + dc) (slots + ds)) : mK p l e R s m args below meth c Q D cl n0 b mt cA ft L0 xs pc L st h cells slots := by
  obtain ⟨hx, hb, hown, hts, hini, hCl, hK, hX, hZ, hT, hU, hN, hbn, hns, hL0, -, -⟩ := F
  intro ls H locs hL hI hR hS hz
  simp only [mstep, mnx] at hs
  unfold mix at hs
  split at hs
  · rename_i x o r
    obtain ⟨n, hn, h1, h2, h3⟩ := mrd_ok hs
    cases h3
    have k8 := kk ls H locs hL hI hR hS hz
    match o, hn, k8 with
    | 0, hn, k8 =>
      obtain ⟨i1, -, i3, -⟩ := hI
      rw [i1] at hn
      cases hn
      refine va_sld hx hb hX (Nat.lt_of_lt_of_le hbn hns) (by show ¬ n0 ≤ b; omega) hS (min_of h1 h2) hd ?_
      have e1 : xs (Int32.ofInt x).toNatClampNeg = Int32.ofInt (h.2.1 0 (m32 x).toNat) := (i3 (m32 x).toNat (by omega)).symm
      rw [e1]
      exact k8
    | 1, hn, k8 =>
      obtain ⟨-, i1, -, i4⟩ := hI
      rw [i1] at hn
      cases hn
      refine va_ti hx hb hT hS (min_of h1 h2) rfl hd ?_
      have e1 : ([1, 1, 2, 3] : List Int).getD (Int32.ofInt x).toNatClampNeg 0 = h.2.1 1 (m32 x).toNat := (i4 (m32 x).toNat (by omega)).symm
      rw [e1]
      exact k8
    | o + 2, hn, k8 =>
      have hg := mws_get (n0 := n0) (ad := mad n0 b mt) (cA := cA) (ft := ft) (show 2 ≤ o + 2 by omega) hn
      rw [mcell_i (by omega)] at hg
      exact va_iald hx hb hK hR.1 o 0 hg (mty_get (by omega)) (min_of h1 h2) hd k8
  · cases hs
theorem mF_aloads {a b' c' : Nat} (F : mFr p s m args meth c cc own ini good D cl n0 b mt cA ft L0 xs strs nw) (i : Instr) (hi : i = .baload ∨ i = .laload ∨ (i = .aaload ∧ 2 < a ∧ a < 7)) (hd : decode cc pc = .ok (i, 1))
    (hs : mstep fd nf (i, 1, a, b', c') pc L st h = some (.inl (pc', L', st', h', dc, ds)))
    (kk : mK p l e R s m args below meth c Q D cl n0 b mt cA ft L0 xs pc' L' st' h' (cells + dc) (slots + ds)) : mK p l e R s m args below meth c Q D cl n0 b mt cA ft L0 xs pc L st h cells slots := by
  obtain ⟨hx, hb, hown, hts, hini, hCl, hK, hX, hZ, hT, hU, hN, hbn, hns, hL0, -, -⟩ := F
  intro ls H locs hL hI hR hS hz
  have big : ∀ {o kd n : Nat}, 0 < kd → h.1[o]? = some (kd, n) → 2 ≤ o := by
    intro o kd n h0 hk
    match o, hk with
    | 0, hk => rw [hI.1] at hk; cases hk; omega
    | 1, hk => rw [hI.2.1] at hk; cases hk; omega
    | o + 2, _ => omega
  rcases hi with rfl | rfl | ⟨rfl, hk1, hk2⟩
  · simp only [mstep, mnx] at hs
    unfold mix at hs
    split at hs
    · rename_i x o r
      obtain ⟨n, hn, h1, h2, h3⟩ := mrd_ok hs
      cases h3
      have k8 := kk ls H locs hL hI hR hS hz
      have ho := big (by omega) hn
      have hg := mws_get (n0 := n0) (ad := mad n0 b mt) (cA := cA) (ft := ft) ho hn
      rw [mcell_i (by omega)] at hg
      show W p l e R s m args below meth c H locs cells slots Q (F0 m pc ls (.int (Int32.ofInt x) :: .ref (mad n0 b mt o) :: _))
      rw [mad_ge ho]
      exact va_zald hx hb hK hR.1 (o - 2) 1 hg (mty_get (by omega)) (min_of h1 h2) hd k8
    · cases hs
  · simp only [mstep] at hs
    cases hs
  · simp only [mstep, mnx] at hs
    unfold mix at hs
    split at hs
    · rename_i x o r
      obtain ⟨n, hn, h1, h2, h3⟩ := mrd_ok hs
      split at h3
      · rename_i h0
        cases h3
        have k8 := kk ls H locs hL hI hR hS hz
        have ho := big (by omega) hn
        have hg := mws_get (n0 := n0) (ad := mad n0 b mt) (cA := cA) (ft := ft) ho hn
        rw [mcell_q hk1 (by omega)] at hg
        show W p l e R s m args below meth c H locs cells slots Q (F0 m pc ls (.int (Int32.ofInt x) :: .ref (mad n0 b mt o) :: _))
        rw [mad_ge ho]
        have key : ∀ C, mky a = .object C → W p l e R s m args below meth c H locs cells slots Q (F0 m pc ls (.int (Int32.ofInt x) :: .ref (n0 + (o - 2)) :: r.map (menc (mad n0 b mt)))) := by
          intro C hC
          refine va_aldq (C := C) hx hb hK hR.1 (o - 2) a hg (by rw [mty_get hk2, hC]) (min_of h1 h2) hd ?_
          have e1 : mro (mad n0 b mt) (h.2.1 o (Int32.ofInt x).toNatClampNeg) = some (mad n0 b mt (h.2.1 o (m32 x).toNat).toNat) := by
            unfold mro
            rw [if_neg (by show ¬ h.2.1 o (m32 x).toNat < 0; omega)]
            rfl
          rw [e1]
          exact k8
        rcases (show a = 3 ∨ a = 4 ∨ a = 5 ∨ a = 6 by omega) with rfl | rfl | rfl | rfl <;> exact key _ rfl
      · cases h3
    · cases hs
theorem mwr_ok {kd o : Nat} {x y : Int} {f : mH → Option mO} {r : mO} (hs : mwr h kd o x y f = some r) : ∃ n, h.1[o]? = some (kd, n) ∧ 2 ≤ o ∧ 0 ≤ m32 x ∧ m32 x < n ∧ f (h.1, mup h.2.1 o (m32 x).toNat y, h.2.2) = some r := by
  unfold mwr at hs
  split at hs
  · rename_i n hn
    split at hs
    · rename_i hr
      exact ⟨n, msz_ok hn, hr.1, hr.2.1, hr.2.2, hs⟩
    · cases hs
  · cases hs
theorem mF_astores {a b' c' : Nat} {q : vw_C} (F : mFr p s m args meth c cc own ini good D cl n0 b mt cA ft L0 xs strs nw) (i : Instr) (hi : i = .iastore ∨ i = .bastore ∨ i = .lastore ∨ (i = .aastore ∧ 2 < a ∧ a < 7 ∧ cl[b']? = some q ∧ mky a = .object q.1)) (hd : decode cc pc = .ok (i, 1))
    (hs : mstep fd nf (i, 1, a, b', c') pc L st h = some (.inl (pc', L', st', h', dc, ds)))
    (kk : mK p l e R s m args below meth c Q D cl n0 b mt cA ft L0 xs pc' L' st' h' (cells + dc) (slots + ds)) : mK p l e R s m args below meth c Q D cl n0 b mt cA ft L0 xs pc L st h cells slots := by
  obtain ⟨hx, hb, hown, hts, hini, hCl, hK, hX, hZ, hT, hU, hN, hbn, hns, hL0, -, -⟩ := F
  intro ls H locs hL hI hR hS hz
  rcases hi with rfl | rfl | rfl | ⟨rfl, hk1, hk2, hcl, hky⟩
  · simp only [mstep, mnx] at hs
    split at hs
    · rename_i y x o r
      obtain ⟨n, hn, ho, h1, h2, h3⟩ := mwr_ok hs
      cases h3
      have hg := mws_get (n0 := n0) (ad := mad n0 b mt) (cA := cA) (ft := ft) ho hn
      rw [mcell_i (by omega)] at hg
      show W p l e R s m args below meth c H locs cells slots Q (F0 m pc ls (.int (Int32.ofInt y) :: .int (Int32.ofInt x) :: .ref (mad n0 b mt o) :: _))
      rw [mad_ge ho]
      refine va_iast hx hb hK hR.1 hR.2 hS (o - 2) 0 hg (mty_get (by omega)) (min_of h1 h2) hd fun H1 locs1 hP1 hD1 hS1 => ?_
      refine kk ls H1 locs1 hL (hI.up ho) (mRel_set ho hn ?_ hP1 hD1) hS1 hz
      rw [mcell_i (by omega)]
      congr 4
      funext j
      show Int32.ofInt (if j = (m32 x).toNat then y else h.2.1 o j) = if j = (m32 x).toNat then Int32.ofInt y else Int32.ofInt (h.2.1 o j)
      split <;> rfl
    · cases hs
  · simp only [mstep, mnx] at hs
    split at hs
    · rename_i y x o r
      split at hs
      · rename_i hy
        obtain ⟨n, hn, ho, h1, h2, h3⟩ := mwr_ok hs
        cases h3
        have hg := mws_get (n0 := n0) (ad := mad n0 b mt) (cA := cA) (ft := ft) ho hn
        rw [mcell_i (by omega)] at hg
        show W p l e R s m args below meth c H locs cells slots Q (F0 m pc ls (.int (Int32.ofInt y) :: .int (Int32.ofInt x) :: .ref (mad n0 b mt o) :: _))
        rw [mad_ge ho]
        refine va_zast hx hb hK hR.1 hR.2 hS (o - 2) 1 hg (mty_get (by omega)) (min_of h1 h2) hd fun H1 locs1 hP1 hD1 hS1 => ?_
        refine kk ls H1 locs1 hL (hI.up ho) (mRel_set ho hn ?_ hP1 hD1) hS1 hz
        rw [mcell_i (by omega)]
        congr 4
        funext j
        have e1 : vp_nar .boolean (Int32.ofInt y) = Int32.ofInt y := by
          rcases hy with rfl | rfl <;> decide
        rw [e1]
        show Int32.ofInt (if j = (m32 x).toNat then y else h.2.1 o j) = if j = (m32 x).toNat then Int32.ofInt y else Int32.ofInt (h.2.1 o j)
        split <;> rfl
      · cases hs
    · cases hs
  · simp only [mstep] at hs
    cases hs
  · simp only [mstep, mnx] at hs
    split at hs
    · rename_i y x o r
      split at hs
      · rename_i hy
        obtain ⟨n, hn, ho, h1, h2, h3⟩ := mwr_ok hs
        cases h3
        simp only [mobj, Bool.and_eq_true, decide_eq_true_eq] at hy
        obtain ⟨hy1, hy2⟩ := hy
        split at hy2
        · rename_i N hN
          have hgy := mws_get (n0 := n0) (ad := mad n0 b mt) (cA := cA) (ft := ft) hy1 (msz_ok hN)
          rw [mcell_o] at hgy
          have hg := mws_get (n0 := n0) (ad := mad n0 b mt) (cA := cA) (ft := ft) ho hn
          rw [mcell_q hk1 (by omega)] at hg
          show W p l e R s m args below meth c H locs cells slots Q (F0 m pc ls (.ref (mad n0 b mt y) :: .int (Int32.ofInt x) :: .ref (mad n0 b mt o) :: _))
          rw [mad_ge ho, mad_ge hy1]
          refine va_astq hx hb hK hR.1 hR.2 hS (o - 2) a (y - 2) b' hg (by rw [mty_get hk2, hky]) hgy hcl (min_of h1 h2) hd fun H1 locs1 hP1 hD1 hS1 => ?_
          refine kk ls H1 locs1 hL (hI.up ho) (mRel_set ho hn ?_ hP1 hD1) hS1 hz
          rw [mcell_q hk1 (by omega)]
          congr 7
          funext j
          show mro (mad n0 b mt) (if j = (m32 x).toNat then (y : Int) else h.2.1 o j) = if j = (m32 x).toNat then some (n0 + (y - 2)) else mro (mad n0 b mt) (h.2.1 o j)
          split
          · unfold mro
            rw [if_neg (by omega)]
            show some (mad n0 b mt y) = _
            rw [mad_ge hy1]
          · rfl
        · cases hy2
      · cases hs
    · cases hs
end MS3
