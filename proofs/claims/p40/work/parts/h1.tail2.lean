/-! What is asked behind each deed. -/
section TAIL2
variable {Ls N N1 k pc n a b c d p q w tn tu Y t e X j : Nat} {L : mLs} {r : List mV} {σ σ' σ0 σ1 σ2 : Sg} {post : tP} {i x y z v : Int} {B M : Int → Int} {ds an dA A A2 : List Int} {ws rs PA PB : List Int} {tx : List (List Int)} {D3 : Nat → TD} {o3 : Nat → Nat → Int} {R3 : Nat → RuT} {hd : Nat → Int} {en : List EnT} {bf : Nat → List Nat} {rd : Nat → List Int} {hh ww : Int} {v11 v12 v13 v14 v15 v16 v17 v18 v19 v20 : Option mV}
set_option maxRecDepth 8000 in
theorem law_1815 (htu : tu < 1000) (h : LI σ p q w) (K : hdK Ls N p q w tn tu post) : Tr Ls N 364 1815 (lwV p q w tn tu v11 v12 v13 v14 v15 v16 v17 v18 v19 v20) [] σ post := by
  iterate 2 (refine tr_mv rfl (fun _ => rfl) ?_)
  have := K σ v11 v12 v13 v14 v15 v16 v17 v18 v19 v20 h
  unfold lwV at this
  rw [show ((tu + 1 : Nat) : Int) = (tu : Int) + 1 by omega] at this
  exact this
set_option maxRecDepth 8000 in
theorem law_1725 (h : LI σ p q w) (hY : Y < 2 ^ 28) (htu : tu < 1000) (K : hdK Ls N p q w tn tu post) : Tr Ls (N + 30) 364 1725 (lwV p q w tn tu v11 (some (mI (Y : Int))) v13 v14 (some (mI (e : Int))) v16 v17 v18 v19 v20) [] σ post := by
  have h0 := h
  obtain ⟨B, M, ds, an, tx, D3, o3, R3, hd, en, bf, ws, rs, rd, PA, PB, hh, ww, h, ⟨hds, hrd, hrs, htx, hA, h12, h10⟩, hp, hq, hw⟩ := h
  have hl := h.1.lens
  have out : ∀ v11 v12 v13 v14 v15 v16 v17 v18 v19 v20, Tr Ls (N + 30) 364 1815 (lwV p q w tn tu v11 v12 v13 v14 v15 v16 v17 v18 v19 v20) [] σ post := fun v11 v12 v13 v14 v15 v16 v17 v18 v19 v20 => law_1815 htu h0 (fun σ' v11 v12 v13 v14 v15 v16 v17 v18 v19 v20 h' => tr_mono (K σ' v11 v12 v13 v14 v15 v16 v17 v18 v19 v20 h') (by omega))
  iterate 3 (refine tr_mv rfl (fun _ => rfl) ?_)
  refine tr_if2 rfl (m32_of (by omega)) (fun c1 => ?_) (fun c1 => ?_)
  · exact out _ _ _ _ _ _ _ _ _ _
  iterate 2 (refine tr_mv rfl (fun _ => rfl) ?_)
  refine tr_remn (a := tu) (b := 20) (by omega) (by omega) rfl ?_
  iterate 1 (refine tr_mv rfl (fun _ => rfl) ?_)
  refine tr_cmp2 rfl (m32_of (by omega)) (m32_of (by omega)) (fun c2 => ?_) (fun c2 => ?_)
  · exact out _ _ _ _ _ _ _ _ _ _
  iterate 4 (refine tr_mv rfl (fun _ => rfl) ?_)
  have h2 := law_ws (Ls := Ls) (N := N) (q := q) (tn := tn) (tu := tu) (v11 := v11) (v13 := v13) (v14 := v14) (e := e) (v19 := v19) (v20 := v20) (σ0 := σ) (post := post) hrs hrd hw hp h10 h.1.cos hY (fun σ' v16 v17 v18 h' k' => law_1815 htu ⟨B, M, ds, an, tx, D3, o3, R3, hd, en, bf, ws, rs, rd, PA, PB, hh, ww, h', ⟨hds, hrd, hrs, htx, hA.of k', h12, h10⟩, hp, hq, hw⟩ K) p 0 σ v18 h kp4.rf (Nat.add_zero _)
  rw [cntW_zero (fun x hx => h.1.cos.2.2.1 x hx)] at h2
  exact tr_mono h2 (by omega)
set_option maxRecDepth 8000 in
theorem law_1696 (h : LI σ p q w) (hY : Y < 2 ^ 28) (ht : t < 3) (htu : tu < 1000) (K : hdK Ls N p q w tn tu post) : Tr Ls (N + 31) 364 1696 (lwV p q w tn tu v11 (some (mI (Y : Int))) v13 (some (mI (t : Int))) (some (mI (e : Int))) v16 v17 v18 v19 v20) [] σ post := by
  have h0 := h
  obtain ⟨B, M, ds, an, tx, D3, o3, R3, hd, en, bf, ws, rs, rd, PA, PB, hh, ww, h, ⟨hds, hrd, hrs, htx, hA, h12, h10⟩, hp, hq, hw⟩ := h
  have out : ∀ σ', StC σ' B M ds an tx D3 o3 R3 hd en bf ws rs rd PA PB hh ww → kp4 σ σ' → Tr Ls (N + 30) 364 1718 (lwV p q w tn tu v11 (some (mI (Y : Int))) v13 (some (mI (t : Int))) (some (mI (e : Int))) v16 v17 v18 v19 v20) [] σ' post := fun σ' h' k' => by
    iterate 3 (refine tr_mv rfl (fun _ => rfl) ?_)
    exact law_1725 ⟨B, M, ds, an, tx, D3, o3, R3, hd, en, bf, ws, rs, rd, PA, PB, hh, ww, h', ⟨hds, hrd, hrs, htx, hA.of k', h12, h10⟩, hp, hq, hw⟩ hY htu K
  iterate 2 (refine tr_mv rfl (fun _ => rfl) ?_)
  refine tr_remn (a := tu) (b := 24) (by omega) (by omega) rfl ?_
  iterate 1 (refine tr_mv rfl (fun _ => rfl) ?_)
  refine tr_cmp2 rfl (m32_of (by omega)) (m32_of (by omega)) (fun c2 => ?_) (fun c2 => ?_)
  · exact tr_mono (out σ h kp4.rf) (by omega)
  iterate 5 (refine tr_mv rfl (fun _ => rfl) ?_)
  rw [← hq]
  refine tr_stat1 rfl rfl rfl (s_336 (N := 0) h hA ht (fun σ' h' k' => ?_))
  iterate 1 (refine tr_mv rfl (fun _ => rfl) ?_)
  have := out σ' h' k'
  rw [← hq] at this
  exact this
set_option maxRecDepth 8000 in
theorem law_1658 (h : StC σ B M ds an tx D3 o3 R3 hd en bf ws rs rd PA PB hh ww) (hLI : ∀ σ', StC σ' B M ds an tx D3 o3 R3 hd en bf ws rs rd PA PB hh ww → kp4 σ σ' → LI σ' p q w) (hA : lawA σ en) (hq : en.length = q) (he : e < q) (hr : enL (en.getD e enD) ≠ [] → i = (e : Int)) (hi : in32 i) (hY : Y < 2 ^ 28) (ht : t < 3) (htu : tu < 1000) (K : hdK Ls N p q w tn tu post) : Tr Ls (N + 31) 364 1658 (lwV p q w tn tu v11 (some (mI (Y : Int))) v13 (some (mI (t : Int))) (some (mI (e : Int))) (some (mI i)) v17 v18 v19 v20) [] σ post := by
  have hl := h.1.lens
  have hA1 := (hA.1 e (by omega)).2.2
  have h10 := (h.1.lcs _ (enD_mem (show e < en.length by omega))).2.2.2.2.1
  have key : Tr Ls (N + 31) 364 1673 (lwV p q w tn tu v11 (some (mI (Y : Int))) v13 (some (mI (t : Int))) (some (mI (e : Int))) (some (mI i)) v17 v18 v19 v20) [] σ post := by
    iterate 2 (refine tr_mv rfl (fun _ => rfl) ?_)
    refine tr_remn (a := tu) (b := 12) (by omega) (by omega) rfl ?_
    iterate 1 (refine tr_mv rfl (fun _ => rfl) ?_)
    refine tr_cmp2 rfl (m32_of (by omega)) (m32_of (by omega)) (fun c2 => ?_) (fun c2 => ?_)
    · exact law_1696 (hLI σ h kp4.rf) hY ht htu K
    iterate 4 (refine tr_mv rfl (fun _ => rfl) ?_)
    refine tr_la (Or.inr (Or.inr rfl)) (by omega) rfl ?_
    rw [hA1]
    refine tr_stat rfl rfl rfl (s_337 h (by omega) rfl (fun σ' h' k' => ?_))
    iterate 1 (refine tr_mv rfl (fun _ => rfl) ?_)
    exact law_1696 (hLI σ' h' k') hY ht htu K
  iterate 2 (refine tr_mv rfl (fun _ => rfl) ?_)
  refine tr_la (Or.inr (Or.inr rfl)) (by omega) rfl ?_
  rw [hA1]
  refine tr_if2 rfl (m32_of (by omega)) (fun c1 => ?_) (fun c1 => ?_)
  · exact key
  · have e1 := hr (fun g => by rw [g] at c1; exact c1 rfl)
    iterate 2 (refine tr_mv rfl (fun _ => rfl) ?_)
    refine tr_cmp2 rfl (m32_of (by omega)) (m32_of (by omega)) (fun c2 => ?_) (fun c2 => ?_)
    · exact absurd e1 c2
    exact key
set_option maxRecDepth 8000 in
theorem law_1623 (h : LI σ p q w) (he : 0 < q → e < q) (hY : Y < 2 ^ 28) (ht : t < 3) (htu : tu < 1000) (K : hdK Ls N p q w tn tu post) : Tr Ls (N + 31) 364 1623 (lwV p q w tn tu v11 (some (mI (Y : Int))) v13 (some (mI (t : Int))) (some (mI (e : Int))) v16 v17 v18 v19 v20) [] σ post := by
  have h0 := h
  obtain ⟨B, M, ds, an, tx, D3, o3, R3, hd, en, bf, ws, rs, rd, PA, PB, hh, ww, h, ⟨hds, hrd, hrs, htx, hA, h12, h10⟩, hp, hq, hw⟩ := h
  have hl := h.1.lens
  have hLI : ∀ σ', StC σ' B M ds an tx D3 o3 R3 hd en bf ws rs rd PA PB hh ww → kp4 σ σ' → LI σ' p q w := fun σ' h' k' => ⟨B, M, ds, an, tx, D3, o3, R3, hd, en, bf, ws, rs, rd, PA, PB, hh, ww, h', ⟨hds, hrd, hrs, htx, hA.of k', h12, h10⟩, hp, hq, hw⟩
  iterate 3 (refine tr_mv rfl (fun _ => rfl) ?_)
  refine tr_if2 rfl (m32_of (by omega)) (fun c1 => ?_) (fun c1 => ?_)
  · exact tr_mono (law_1725 h0 hY htu K) (by omega)
  have he2 : e < en.length := by have := he (by omega); omega
  have hin := endE_in (e := (e : Int)) h.1.rfs (by omega)
  have hsf := endE_self (a := e) he2
  generalize hf : endE en (e : Int) = f at *
  iterate 2 (refine tr_mv rfl (fun _ => rfl) ?_)
  refine tr_vc (q := 2) rfl ⟨by decide, by decide +kernel⟩ rfl rfl rfl (q_160 h (by omega) ?_)
  rw [hf]
  have hfin : in32 f := by rcases hin with g | ⟨g1, g2, -⟩ <;> omega
  iterate 3 (refine tr_mv rfl (fun _ => rfl) ?_)
  refine tr_cmp2 rfl (m32_of hfin) (m32_of (by omega)) (fun c2 => ?_) (fun c2 => ?_)
  · exact law_1658 h hLI hA hq (by omega) hsf hfin hY ht htu K
  · rcases hin with g | ⟨g1, g2, g3⟩
    · exact absurd g c2
    iterate 2 (refine tr_mv rfl (fun _ => rfl) ?_)
    refine tr_vc (q := 2) rfl ⟨by decide, by decide +kernel⟩ rfl rfl rfl (q_160 h ⟨g1, g2⟩ ?_)
    rw [g3]
    iterate 1 (refine tr_mv rfl (fun _ => rfl) ?_)
    refine tr_cmp2 rfl (m32_of hfin) (m32_of hfin) (fun c3 => absurd rfl c3) (fun c3 => ?_)
    exact law_1658 h hLI hA hq (by omega) hsf hfin hY ht htu K
set_option maxRecDepth 8000 in
theorem law_1543 (h : LI σ p q w) (he : 0 < q → e < q) (hY : Y < 2 ^ 28) (ht : t < 3) (htu : tu < 1000) (K : hdK Ls N p q w tn tu post) : Tr Ls (N + 31) 364 1543 (lwV p q w tn tu v11 (some (mI (Y : Int))) v13 (some (mI (t : Int))) (some (mI (e : Int))) v16 v17 v18 v19 v20) [] σ post := by
  have h0 := h
  obtain ⟨B, M, ds, an, tx, D3, o3, R3, hd, en, bf, ws, rs, rd, PA, PB, hh, ww, h, ⟨hds, hrd, hrs, htx, hA, h12, h10⟩, hp, hq, hw⟩ := h
  have hl := h.1.lens
  have hLI : ∀ σ', StC σ' B M ds an tx D3 o3 R3 hd en bf ws rs rd PA PB hh ww → kp4 σ σ' → LI σ' p q w := fun σ' h' k' => ⟨B, M, ds, an, tx, D3, o3, R3, hd, en, bf, ws, rs, rd, PA, PB, hh, ww, h', ⟨hds, hrd, hrs, htx, hA.of k', h12, h10⟩, hp, hq, hw⟩
  have htt : ∀ a, a < tx.length → okT (tx.getD a []) := fun a ha => htx _ (by
    rw [List.getD_eq_getElem?_getD, List.getElem?_eq_getElem ha]
    exact List.getElem_mem ha)
  iterate 3 (refine tr_mv rfl (fun _ => rfl) ?_)
  refine tr_if2 rfl (m32_of (by omega)) (fun c1 => ?_) (fun c1 => ?_)
  · exact law_1623 h0 he hY ht htu K
  have hd16 : Y / 2 ^ 4 ≤ Y := Nat.div_le_self _ _
  have hd8 : Y / 2 ^ 8 ≤ Y := Nat.div_le_self _ _
  have hb1 : Y / 2 ^ 4 % p < p := Nat.mod_lt _ (by omega)
  have hb2 : Y / 2 ^ 8 % p < p := Nat.mod_lt _ (by omega)
  iterate 2 (refine tr_mv rfl (fun _ => rfl) ?_)
  refine tr_shrn (a := Y) (p := 4) (by omega) (by decide) rfl ?_
  iterate 1 (refine tr_mv rfl (fun _ => rfl) ?_)
  refine tr_remn (a := Y / 2 ^ 4) (b := p) (by omega) (by omega) rfl ?_
  generalize Y / 2 ^ 4 % p = a at *
  iterate 3 (refine tr_mv rfl (fun _ => rfl) ?_)
  refine tr_stat rfl rfl rfl (s_333 h (a := a) (by omega) (htt a (by omega)) (fun σ1 h1 k1 => ?_))
  have key : ∀ σ2, StC σ2 B M ds an tx D3 o3 R3 hd en bf ws rs rd PA PB hh ww → kp4 σ σ2 → Tr Ls (N + 31) 364 1598 (lwV p q w tn tu v11 (some (mI (Y : Int))) v13 (some (mI (t : Int))) (some (mI (e : Int))) (some (mI (a : Int))) v17 v18 v19 v20) [] σ2 post := by
    intro σ2 h2 k2
    iterate 1 (refine tr_mv rfl (fun _ => rfl) ?_)
    refine tr_vc (q := 2) rfl ⟨by decide, by decide +kernel⟩ rfl rfl rfl (q_147 h2 ?_)
    rw [hp]
    iterate 1 (refine tr_mv rfl (fun _ => rfl) ?_)
    refine tr_cmp2 rfl (m32_of (by omega)) (m32_of (by omega)) (fun c3 => absurd rfl c3) (fun c3 => ?_)
    iterate 1 (refine tr_mv rfl (fun _ => rfl) ?_)
    refine tr_vc (q := 2) rfl ⟨by decide, by decide +kernel⟩ rfl rfl rfl (q_156 h2 ?_)
    rw [hq]
    iterate 1 (refine tr_mv rfl (fun _ => rfl) ?_)
    refine tr_cmp2 rfl (m32_of (by omega)) (m32_of (by omega)) (fun c3 => absurd rfl c3) (fun c3 => ?_)
    iterate 3 (refine tr_mv rfl (fun _ => rfl) ?_)
    exact law_1623 (hLI σ2 h2 k2) he hY ht htu K
  iterate 3 (refine tr_mv rfl (fun _ => rfl) ?_)
  refine tr_remn (a := tu) (b := 8) (by omega) (by omega) rfl ?_
  refine tr_if2 rfl (m32_of (by omega)) (fun c2 => ?_) (fun c2 => ?_)
  · exact key σ1 h1 k1
  iterate 5 (refine tr_mv rfl (fun _ => rfl) ?_)
  refine tr_shrn (a := Y) (p := 8) (by omega) (by decide) rfl ?_
  iterate 1 (refine tr_mv rfl (fun _ => rfl) ?_)
  refine tr_remn (a := Y / 2 ^ 8) (b := p) (by omega) (by omega) rfl ?_
  refine tr_stat rfl rfl rfl (s_334 h1 (a := a) (b := Y / 2 ^ 8 % p) ht (by omega) (by omega) (htt a (by omega)) (fun σ2 h2 k2 => ?_))
  iterate 1 (refine tr_mv rfl (fun _ => rfl) ?_)
  exact key σ2 h2 (k1.tr k2)
end TAIL2
