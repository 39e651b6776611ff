/-! The model finds groups; locators of both sides. -/
def swc (m : Int) : Int := 1000 * rk (m / 1000) + m % 1000
theorem swc_ok {m : Int} (h : okLc m) : okLc (swc m) ∧ swc (swc m) = m ∧ (swc m) / 1000 = rk (m / 1000) ∧ (swc m) % 1000 = m % 1000 ∧ rk (rk (m / 1000)) = m / 1000 := by
  have e : m / 1000 = 0 ∨ m / 1000 = 1 ∨ m / 1000 = 2 := by omega
  unfold swc
  rcases e with e | e | e <;> rw [e]
  · rw [show rk 0 = 1 from rfl, show (1000 * (1 : Int) + m % 1000) / 1000 = 1 by omega, show rk 1 = 0 from rfl]
    refine ⟨⟨?_, ?_, ?_⟩, ?_, ?_, ?_, ?_⟩ <;> first | omega | rfl
  · rw [show rk 1 = 0 from rfl, show (1000 * (0 : Int) + m % 1000) / 1000 = 0 by omega, show rk 0 = 1 from rfl]
    refine ⟨⟨?_, ?_, ?_⟩, ?_, ?_, ?_, ?_⟩ <;> first | omega | rfl
  · rw [show rk 2 = 2 from rfl, show (1000 * (2 : Int) + m % 1000) / 1000 = 2 by omega, show rk 2 = 2 from rfl]
    refine ⟨⟨?_, ?_, ?_⟩, ?_, ?_, ?_, ?_⟩ <;> first | omega | rfl
def okLoc (L M : List Int) : Prop := L.Pairwise (fun a b => a < b) ∧ (∀ c ∈ L, okLc c) ∧ (∀ m ∈ M, okLc m) ∧ M.Nodup ∧ L.length ≤ 10 ∧ ∀ m, okLc m → (m ∈ M ↔ swc m ∈ L)
theorem sub_len : ∀ {l1 l2 : List Int}, l1.Nodup → (∀ x ∈ l1, x ∈ l2) → l1.length ≤ l2.length
  | [], _, _, _ => Nat.zero_le _
  | a :: l1, l2, hn, hs => by
    obtain ⟨h1, h2⟩ := List.nodup_cons.mp hn
    have h3 : l1.length ≤ (l2.erase a).length := sub_len h2 (fun x hx => (List.mem_erase_of_ne (fun e => h1 (by rw [← e]; exact hx))).mpr (hs x (List.mem_cons_of_mem _ hx)))
    have h4 := List.length_erase_of_mem (hs a List.mem_cons_self)
    have h5 : 0 < l2.length := List.length_pos_of_mem (hs a List.mem_cons_self)
    simp only [List.length_cons]
    omega
theorem swc_inj {a b : Int} (ha : okLc a) (hb : okLc b) (e : swc a = swc b) : a = b := by
  rw [← (swc_ok ha).2.1, ← (swc_ok hb).2.1, e]
theorem map_nodup : ∀ {l : List Int}, l.Nodup → (∀ m ∈ l, okLc m) → (l.map swc).Nodup
  | [], _, _ => List.nodup_nil
  | a :: l, h, ho => by
    obtain ⟨h1, h2⟩ := List.nodup_cons.mp h
    rw [List.map_cons]
    refine List.nodup_cons.mpr ⟨fun g => ?_, map_nodup h2 (fun m hm => ho m (List.mem_cons_of_mem _ hm))⟩
    obtain ⟨b, hb, e⟩ := List.mem_map.mp g
    have := swc_inj (ho b (List.mem_cons_of_mem _ hb)) (ho a List.mem_cons_self) e
    rw [this] at hb
    exact h1 hb
theorem okLoc.len {L M : List Int} (h : okLoc L M) : M.length = L.length := by
  obtain ⟨h1, h2, h3, h4, h5, h6⟩ := h
  have a1 : M.length ≤ L.length := by
    have := sub_len (map_nodup h4 h3) (l2 := L) (fun x hx => by
      obtain ⟨m, hm, rfl⟩ := List.mem_map.mp hx
      exact (h6 m (h3 m hm)).mp hm)
    simpa using this
  have a2 : L.length ≤ M.length := by
    have hn : L.Nodup := h1.imp (fun h => by omega)
    have := sub_len (map_nodup hn h2) (l2 := M) (fun x hx => by
      obtain ⟨c, hc, rfl⟩ := List.mem_map.mp hx
      refine (h6 _ (swc_ok (h2 c hc)).1).mpr ?_
      rw [(swc_ok (h2 c hc)).2.1]
      exact hc)
    simpa using this
  omega
theorem okLoc.nil : okLoc [] [] := ⟨List.Pairwise.nil, fun _ h => absurd h List.not_mem_nil, fun _ h => absurd h List.not_mem_nil, List.nodup_nil, by decide, fun _ _ => ⟨fun h => absurd h List.not_mem_nil, fun h => absurd h List.not_mem_nil⟩⟩
theorem pgS_mem {L : List Int} {s q : Int} : q ∈ pgS s L ↔ ∃ c ∈ L, c / 1000 = rk s ∧ c % 1000 = q := by
  unfold pgS cdS
  rw [List.mem_map]
  constructor
  · rintro ⟨c, hc, e⟩
    rw [List.mem_filter, decide_eq_true_iff] at hc
    exact ⟨c, hc.1, hc.2, e⟩
  · rintro ⟨c, hc, e1, e2⟩
    exact ⟨c, List.mem_filter.mpr ⟨hc, decide_eq_true e1⟩, e2⟩
theorem pgS_sorted {L : List Int} {s : Int} (h : L.Pairwise (fun a b => a < b)) : (pgS s L).Pairwise (fun a b => a < b) := by
  unfold pgS
  rw [List.pairwise_map]
  have h1 : (cdS s L).Pairwise (fun a b => a < b) := h.filter _
  refine h1.imp_of_mem (fun {a b} ha hb hab => ?_)
  unfold cdS at ha hb
  rw [List.mem_filter, decide_eq_true_iff] at ha hb
  have := ha.2
  have := hb.2
  omega
theorem okLoc.pg {L M : List Int} (h : okLoc L M) {s : Int} (hs : 0 ≤ s ∧ s ≤ 2) (q : Int) : q ∈ pgS s L ↔ ∃ m ∈ M, m / 1000 = s ∧ m % 1000 = q := by
  obtain ⟨h1, h2, h3, h4, h5, h6⟩ := h
  have hr : rk (rk s) = s := by
    have e : s = 0 ∨ s = 1 ∨ s = 2 := by omega
    rcases e with rfl | rfl | rfl <;> rfl
  rw [pgS_mem]
  constructor
  · rintro ⟨c, hc, e1, e2⟩
    have k := swc_ok (h2 c hc)
    refine ⟨swc c, (h6 _ k.1).mpr (by rw [k.2.1]; exact hc), ?_, ?_⟩
    · rw [k.2.2.1, e1, hr]
    · rw [k.2.2.2.1, e2]
  · rintro ⟨m, hm, e1, e2⟩
    have k := swc_ok (h3 m hm)
    exact ⟨swc m, (h6 _ (h3 m hm)).mp hm, by rw [k.2.2.1, e1], by rw [k.2.2.2.1, e2]⟩
theorem jnA_len : ∀ (d : Nat) (l : List Gp), (jnA d l).length ≤ l.length
  | 0, _ => Nat.le_refl _
  | d + 1, l => by
    have h := (jn1_len l).1
    cases e : jn1 l with
    | nil =>
      have e2 : jnA (d + 1) l = [] := by unfold jnA; rw [e]
      rw [e2]
      exact Nat.zero_le _
    | cons g gs =>
      have h2 := jnA_len d gs
      rw [e] at h
      rw [jnA_cons e]
      simp only [List.length_cons] at h ⊢
      omega
section MFND
variable {Ls N k pc n n' nn b c t a q kd w d p X T : Nat} {L0 : mLs} {st r as : List mV} {h h' : mH} {σ σ' σ'' : Sg} {post : tP} {x y z x' y' i i' s v m u lv : Int} {xs ys ss L M P : List Int} {e : mE} {C : Nat → Nat → Prop} {R : Nat → Prop} {gs rg : List Gp}
/-- the pages of one sort, from the first on -/
theorem mrunP (ha : a < 24) (hok : okLoc L M) (hs : 0 ≤ s ∧ s ≤ 2) {σ0 : Sg} (hc : σ0.2 519 a = (M.length : Int)) (hm : mseg σ0 518 (10 * a) M) {it v4 : Int} :
    ∀ (rest done : List Int) (f l : Int) (gs : List Gp) (σ' : Sg), pgS s L = done ++ l :: rest → 1 ≤ f ∧ f ≤ l → mgp σ' gs → only cGp σ0 σ' → gs.length + rest.length < 15 →
    (∀ σ' v6 v7, mgp σ' (gs ++ rn s f l rest) → only cGp σ0 σ' → Tr Ls N 305 108 [some (mP (some 480)), some (mI (a : Int)), some (mI it), some (mI s), some (mI v4), some (mI (-1)), v6, v7] [] σ' post) →
    Tr Ls N 305 66 [some (mP (some 480)), some (mI (a : Int)), some (mI it), some (mI s), some (mI v4), some (mI f), some (mI l), some (mI (nx (pgS s L) l))] [] σ' post := by
  have hP := pgS_sorted (s := s) hok.1
  have h1 : ∀ q ∈ pgS s L, 1 ≤ q ∧ q < 1000 := fun q hq => by
    obtain ⟨c, hc, e1, e2⟩ := pgS_mem.mp hq
    have := hok.2.1 c hc
    omega
  have hnx : ∀ p : Int, 0 ≤ p → nxF M s p = nx (pgS s L) p := fun p hp => nx_eq hp (fun m hm => (hok.2.2.1 m hm).2.2) hP (hok.pg hs)
  have hml := hok.len
  have hl10 := hok.2.2.2.2.1
  intro rest
  induction rest with
  | nil =>
    intro done f l gs σ' e hf hG ho hlen K
    have hl1 := h1 l (by rw [e]; simp)
    rw [nx_mid hP e]
    show Tr Ls N 305 66 [some (mP (some 480)), some (mI (a : Int)), some (mI it), some (mI s), some (mI v4), some (mI f), some (mI l), some (mI (-1))] [] σ' post
    iterate 4 (refine tr_mv rfl (fun _ => rfl) ?_)
    refine tr_cmp2 rfl (m32_of (by omega)) (m32_of (by omega)) (fun c1 => ?_) (fun c1 => ?_)
    · iterate 4 (refine tr_mv rfl (fun _ => rfl) ?_)
      refine tr_vc (q := 480) rfl ⟨by decide, by decide +kernel⟩ rfl rfl rfl (s_303 hG (by omega) (fun σ2 k1 k2 => ?_))
      iterate 3 (refine tr_mv rfl (fun _ => rfl) ?_)
      show Tr Ls N 305 46 [some (mP (some 480)), some (mI (a : Int)), some (mI it), some (mI s), some (mI v4), some (mI (-1)), some (mI l), some (mI (-1))] [] σ2 post
      iterate 3 (refine tr_mv rfl (fun _ => rfl) ?_)
      exact K σ2 _ _ k1 (ho.tr k2)
    · exact absurd (show ¬ ¬ ((-1 : Int) = l + 1) from c1) (by omega)
  | cons q rest ih =>
    intro done f l gs σ' e hf hG ho hlen K
    have hl1 := h1 l (by rw [e]; simp)
    have hq1 := h1 q (by rw [e]; simp)
    have e2 : pgS s L = (done ++ [l]) ++ q :: rest := by rw [e]; simp
    have hgo : l < q := by
      rw [e] at hP
      exact (List.pairwise_cons.mp (List.pairwise_append.mp hP).2.1).1 q List.mem_cons_self
    have hc' : ∀ σ', only cGp σ0 σ' → σ'.2 519 a = (M.length : Int) := fun σ' h => (h.2 _ _ (by omega)).trans hc
    have hm' : ∀ σ', only cGp σ0 σ' → mseg σ' 518 (10 * a) M := fun σ' h => hm.only h (fun i _ _ => by omega)
    rw [nx_mid hP e]
    show Tr Ls N 305 66 [some (mP (some 480)), some (mI (a : Int)), some (mI it), some (mI s), some (mI v4), some (mI f), some (mI l), some (mI q)] [] σ' post
    iterate 4 (refine tr_mv rfl (fun _ => rfl) ?_)
    rw [show rn s f l (q :: rest) = if q = l + 1 then rn s f q rest else (s, f, l) :: rn s q q rest from rfl] at K
    refine tr_cmp2 rfl (m32_of (by omega)) (m32_of (by omega)) (fun c1 => ?_) (fun c1 => ?_)
    · rw [if_neg (show ¬ (q = l + 1) from c1)] at K
      iterate 4 (refine tr_mv rfl (fun _ => rfl) ?_)
      refine tr_vc (q := 480) rfl ⟨by decide, by decide +kernel⟩ rfl rfl rfl (s_303 hG (by simp at hlen; omega) (fun σ2 k1 k2 => ?_))
      have k3 := ho.tr k2
      iterate 3 (refine tr_mv rfl (fun _ => rfl) ?_)
      show Tr Ls N 305 46 [some (mP (some 480)), some (mI (a : Int)), some (mI it), some (mI s), some (mI v4), some (mI q), some (mI l), some (mI q)] [] σ2 post
      iterate 2 (refine tr_mv rfl (fun _ => rfl) ?_)
      refine tr_cmp2 rfl (m32_of (by omega)) (m32_of (by omega)) (fun c2 => ?_) (fun c2 => ?_)
      · exact absurd c2 (by show ¬ _ = (-1 : Int); omega)
      · iterate 6 (refine tr_mv rfl (fun _ => rfl) ?_)
        refine tr_vc (q := 480) rfl ⟨by decide, by decide +kernel⟩ rfl rfl rfl (s_302 ha (hc' _ k3) (hm' _ k3) (by omega) hok.2.2.1 (by omega) (by omega) ?_)
        rw [hnx q (by omega)]
        iterate 1 (refine tr_mv rfl (fun _ => rfl) ?_)
        refine ih _ q q _ σ2 e2 (by omega) k1 k3 (by simp at hlen ⊢; omega) (fun σ' v6 v7 g1 g2 => K σ' v6 v7 (by simpa using g1) g2)
    · rw [if_pos (Decidable.of_not_not (show ¬ ¬ (q = l + 1) from c1))] at K
      iterate 6 (refine tr_mv rfl (fun _ => rfl) ?_)
      refine tr_vc (q := 480) rfl ⟨by decide, by decide +kernel⟩ rfl rfl rfl (s_302 ha (hc' _ ho) (hm' _ ho) (by omega) hok.2.2.1 (by omega) (by omega) ?_)
      rw [hnx q (by omega)]
      iterate 2 (refine tr_mv rfl (fun _ => rfl) ?_)
      exact ih _ f q gs σ' e2 (by omega) hG ho (by simp at hlen; omega) K
/-- one sort -/
theorem mturn (ha : a < 24) (hok : okLoc L M) (hs : 0 ≤ s ∧ s ≤ 2) (hc : σ.2 519 a = (M.length : Int)) (hm : mseg σ 518 (10 * a) M) {it : Int} {v3 v4 v5 v6 v7 : Option mV} (hG : mgp σ gs) (hlen : gs.length + (pgS s L).length < 15)
    (K : ∀ σ' v6 v7, mgp σ' (gs ++ runs s (pgS s L)) → only cGp σ σ' → Tr Ls N 305 108 [some (mP (some 480)), some (mI (a : Int)), some (mI it), some (mI s), some (mI (gs.length : Int)), some (mI (-1)), v6, v7] [] σ' post) :
    Tr Ls N 305 30 [some (mP (some 480)), some (mI (a : Int)), some (mI it), v3, v4, v5, v6, v7] [mI s] σ post := by
  have hP := pgS_sorted (s := s) hok.1
  have h1 : ∀ q ∈ pgS s L, 1 ≤ q ∧ q < 1000 := fun q hq => by
    obtain ⟨c, hc, e1, e2⟩ := pgS_mem.mp hq
    have := hok.2.1 c hc
    omega
  have hnx : ∀ p : Int, 0 ≤ p → nxF M s p = nx (pgS s L) p := fun p hp => nx_eq hp (fun m hm => (hok.2.2.1 m hm).2.2) hP (hok.pg hs)
  have hml := hok.len
  have hl10 := hok.2.2.2.2.1
  repeat (first | refine tr_mgr rfl (by decide) rfl ?_ | refine tr_mgi rfl (by decide) (by decide) rfl ?_ | refine tr_mv rfl (fun _ => rfl) ?_)
  rw [hG.1]
  repeat (refine tr_mv rfl (fun _ => rfl) ?_)
  refine tr_vc (q := 480) rfl ⟨by decide, by decide +kernel⟩ rfl rfl rfl (s_302 ha hc hm (by omega) hok.2.2.1 (by omega) (by omega) ?_)
  rw [hnx 0 (by omega), nx_zero (fun q hq => (h1 q hq).1)]
  cases hp : pgS s L with
  | nil =>
    rw [hp] at K
    rw [show runs s [] = [] from rfl, List.append_nil] at K
    iterate 1 (refine tr_mv rfl (fun _ => rfl) ?_)
    show Tr Ls N 305 46 [some (mP (some 480)), some (mI (a : Int)), some (mI it), some (mI s), some (mI (gs.length : Int)), some (mI (-1)), v6, v7] [] σ post
    iterate 3 (refine tr_mv rfl (fun _ => rfl) ?_)
    exact K σ _ _ hG only.rf
  | cons q rest =>
    have hq1 := h1 q (by rw [hp]; simp)
    have e0 : pgS s L = [] ++ q :: rest := by rw [hp]; rfl
    rw [hp] at K hlen
    iterate 1 (refine tr_mv rfl (fun _ => rfl) ?_)
    show Tr Ls N 305 46 [some (mP (some 480)), some (mI (a : Int)), some (mI it), some (mI s), some (mI (gs.length : Int)), some (mI q), v6, v7] [] σ post
    iterate 2 (refine tr_mv rfl (fun _ => rfl) ?_)
    refine tr_cmp2 rfl (m32_of (by omega)) (m32_of (by omega)) (fun c2 => ?_) (fun c2 => ?_)
    · exact absurd c2 (by show ¬ _ = (-1 : Int); omega)
    · iterate 6 (refine tr_mv rfl (fun _ => rfl) ?_)
      refine tr_vc (q := 480) rfl ⟨by decide, by decide +kernel⟩ rfl rfl rfl (s_302 ha hc hm (by omega) hok.2.2.1 (by omega) (by omega) ?_)
      rw [hnx q (by omega)]
      iterate 1 (refine tr_mv rfl (fun _ => rfl) ?_)
      exact mrunP ha hok hs hc hm rest [] q q gs σ e0 (by omega) hG only.rf (by simp at hlen; omega) K
theorem s_305 (ha : a < 24) (hok : okLoc L M) (hc : σ.2 519 a = (M.length : Int)) (hm : mseg σ 518 (10 * a) M) (K : ∀ σ', mgp σ' (grpL L) → only cGp σ σ' → post (.inl none) σ') : Tr Ls N 305 0 [some (mP (some 480)), some (mI (a : Int)), none, none, none, none, none, none] [] σ post := by
  have hl10 := hok.2.2.2.2.1
  have hsp := congrArg List.length (split_codes hok.1 hok.2.1)
  rw [List.length_append, List.length_append] at hsp
  have hpl : ∀ s, (pgS s L).length = (cdS s L).length := fun s => List.length_map _
  have p0 := hpl 0
  have p1 := hpl 1
  have p2 := hpl 2
  have r1 := runs_len (s := 1) (pgS 1 L)
  have r0 := runs_len (s := 0) (pgS 0 L)
  have hpr : ∀ (s : Int), ∀ q ∈ pgS s L, 0 ≤ q ∧ q ≤ 999 := fun s q hq => by
    obtain ⟨c, hc, e1, e2⟩ := pgS_mem.mp hq
    have := hok.2.1 c hc
    omega
  have hc' : ∀ σ', only cGp σ σ' → σ'.2 519 a = (M.length : Int) := fun σ' h => (h.2 _ _ (by omega)).trans hc
  have hm' : ∀ σ', only cGp σ σ' → mseg σ' 518 (10 * a) M := fun σ' h => hm.only h (fun i _ _ => by omega)
  iterate 2 (refine tr_mv rfl (fun _ => rfl) ?_)
  refine tr_mpi rfl (Or.inl rfl) (by decide) rfl ?_
  iterate 5 (refine tr_mv rfl (fun _ => rfl) ?_)
  iterate 4 (refine tr_mv rfl (fun _ => rfl) ?_)
  show Tr Ls N 305 30 [some (mP (some 480)), some (mI (a : Int)), some (mI 0), none, none, none, none, none] [mI 1] (setF σ 480 57 0) post
  have o0 : only cGp σ (setF σ 480 57 0) := only.rf.setF (Or.inr ⟨rfl, rfl⟩)
  refine mturn ha hok (by decide) (hc' _ o0) (hm' _ o0) (gs := []) ⟨setF_same .., fun i hi => absurd hi (Nat.not_lt_zero i)⟩ (by simp; omega) (fun σ1 v6 v7 g1 o1 => ?_)
  rw [List.nil_append] at g1
  have o1' := o0.tr o1
  iterate 6 (refine tr_mv rfl (fun _ => rfl) ?_)
  iterate 6 (refine tr_mv rfl (fun _ => rfl) ?_)
  iterate 2 (refine tr_mv rfl (fun _ => rfl) ?_)
  show Tr Ls N 305 30 [some (mP (some 480)), some (mI (a : Int)), some (mI 1), some (mI 1), some (mI 0), some (mI (-1)), v6, v7] [mI 0] σ1 post
  refine mturn ha hok (by decide) (hc' _ o1') (hm' _ o1') g1 (by omega) (fun σ2 v6 v7 g2 o2 => ?_)
  have o2' := o1'.tr o2
  iterate 4 (refine tr_mv rfl (fun _ => rfl) ?_)
  have hk1 := runs_ok (s := 1) (by decide) (pgS 1 L) (hpr 1)
  have hk0 := runs_ok (s := 0) (by decide) (pgS 0 L) (hpr 0)
  refine tr_vc (q := 480) rfl ⟨by decide, by decide +kernel⟩ rfl rfl rfl (s_304 g2 (fun g hg => ?_) (runs_sort _) (by omega) rfl (fun σ3 g3 o3 => ?_))
  · exact (List.mem_append.mp hg).elim (hk1 g) (hk0 g)
  have o3' := o2'.tr o3
  have hj := jnA_len (runs 0 (pgS 0 L)).length (runs 0 (pgS 0 L))
  iterate 6 (refine tr_mv rfl (fun _ => rfl) ?_)
  iterate 5 (refine tr_mv rfl (fun _ => rfl) ?_)
  show Tr Ls N 305 30 [some (mP (some 480)), some (mI (a : Int)), some (mI 2), some (mI 0), some (mI ((runs 1 (pgS 1 L)).length : Int)), some (mI (-1)), v6, v7] [mI 2] σ3 post
  refine mturn ha hok (by decide) (hc' _ o3') (hm' _ o3') g3 (by rw [List.length_append]; have := hpl 2; omega) (fun σ4 v6 v7 g4 o4 => ?_)
  iterate 6 (refine tr_mv rfl (fun _ => rfl) ?_)
  iterate 1 (refine tr_mv rfl (fun _ => rfl) ?_)
  refine tr_ret rfl (fun _ => rfl) (K σ4 ?_ (o3'.tr o4))
  rw [grpL_eq hok.1 hok.2.1, ← List.append_assoc]
  exact g4
end MFND
