/-! Taking a row of signs apart: the class's and the model's. -/
def only (C : Nat → Nat → Prop) (σ σ' : Sg) : Prop := σ'.1 = σ.1 ∧ ∀ q i, ¬ C q i → σ'.2 q i = σ.2 q i
def cRow (q i : Nat) : Prop := q = 489 ∨ (q = 480 ∧ i = 13)
/-- a sign that is there -/
def okS (B : Int → Int) (s : Int) : Prop := 0 ≤ s ∧ s < 48 ∧ (40 ≤ s → B s ≠ -1)
/-- composed signs have bases that are there -/
def okB (B M : Int → Int) : Prop := ∀ s, 0 ≤ s → s < 48 → B s ≠ -1 → okS B (B s) ∧ (B (B s) ≠ -1 → isLet (B (B s))) ∧ isMrk (M s)
section APART
variable {Ls N N1 N2 k pc n n' nn b c t a q : Nat} {L L0 : mLs} {st r as : List mV} {h h' : mH} {σ σ' σ'' : Sg} {post : tP} {x y z x' y' i i' : Int} {xs ys : List Int} {e : mE} {C : Nat → Nat → Prop}
theorem only.rf : only C σ σ := ⟨rfl, fun _ _ _ => rfl⟩
theorem only.tr (h1 : only C σ σ') (h2 : only C σ' σ'') : only C σ σ'' := ⟨h2.1.trans h1.1, fun q i hq => (h2.2 q i hq).trans (h1.2 q i hq)⟩
theorem only.setF {j : Nat} (h1 : only C σ σ') (hc : C q j) : only C σ (setF σ' q j x) := ⟨h1.1, fun p i hp => by
  show mup σ'.2 q j x p i = _
  unfold mup
  split
  · rename_i e1
    split
    · rename_i e2
      rw [e1, e2] at hp
      exact absurd hc hp
    · exact h1.2 p i hp
  · exact h1.2 p i hp⟩
theorem only.wk {C' : Nat → Nat → Prop} (h1 : only C σ σ') (hc : ∀ q i, C q i → C' q i) : only C' σ σ' := ⟨h1.1, fun q i hq => h1.2 q i (fun g => hq (hc q i g))⟩
theorem apart1_len (B M : Int → Int) (s : Int) : (apart1 B M s).length ≤ 3 := by
  unfold apart1
  dsimp only
  split <;> (try split) <;> simp
theorem bOf_setR : bOf (setR σ b xs) = bOf σ := rfl
theorem kOf_setR : kOf (setR σ b xs) = kOf σ := rfl
theorem s_20_loop1 (ha : isRow a n) (hb : isRow b n') (hab : a ≠ b) : ∀ (rest done : List Int) (σ : Sg), (∀ s, in32 (bOf σ s)) → (∀ s, in32 (kOf σ s)) → σ.1 a = done ++ rest → (σ.1 b).length + 3 * rest.length ≤ n' → Tr Ls N 20 30 [some (mP (some 3)), some (mP (some a)), some (mP (some b)), some (mI ((done ++ rest).length : Int))] [] (setR σ b (σ.1 b ++ rest.flatMap (apart1 (bOf σ) (kOf σ)))) post →
    Tr Ls N 20 6 [some (mP (some 3)), some (mP (some a)), some (mP (some b)), some (mI (done.length : Int))] [] σ post := by
  intro rest
  induction rest with
  | nil =>
    intro done σ hB hM hs hl K
    refine tr_fact fun ⟨h0, hr⟩ => ?_
    have hla := rep_len hr ha
    have hsm := isRow_small ha
    rw [List.append_nil] at hs K
    repeat (first | refine tr_gr rfl ⟨by decide, rfl⟩ (by decide) rfl ?_ | refine tr_gi rfl (by decide) ⟨by decide, rfl⟩ (by decide) rfl rfl ?_ | refine tr_gr rfl (by assumption) (by decide) (by assumption) ?_ | refine tr_gi rfl (by decide) (by assumption) (by decide) (by assumption) (by assumption) ?_ | (refine tr_rem ?_ ?_ rfl ?_; omega; omega) | (refine tr_div ?_ ?_ rfl ?_; omega; omega) | refine tr_mv rfl (fun _ => rfl) ?_ | refine tr_ia2 (m32_of (by omega)) (by omega) rfl (fun _ => rfl) rfl (by decide) (by decide) (fun _ => rfl) ?_ | refine tr_size (by assumption) rfl rfl ?_ | refine tr_at2 (by assumption) (m32_of (by omega)) rfl rfl ?_)
    rw [hs]
    rw [hs] at hla
    refine tr_cmp2 rfl (m32_of (by omega)) (m32_of (by omega)) (fun _ => ?_) (fun c1 => absurd (Int.le_refl _) c1)
    simpa [setR_self] using K
  | cons x rest ih =>
    intro done σ hB hM hs hl K
    refine tr_fact fun ⟨h0, hr⟩ => ?_
    have hla := rep_len hr ha
    have hsm := isRow_small ha
    have hin := rep_in hr ha
    rw [hs] at hla hin
    have hlen : (done ++ x :: rest).length = done.length + 1 + rest.length := by simp; omega
    have hl2 : (x :: rest).length = rest.length + 1 := rfl
    iterate 1 (refine tr_mv rfl (fun _ => rfl) ?_)
    iterate 1 (refine tr_mv rfl (fun _ => rfl) ?_)
    refine tr_size ha rfl rfl ?_
    rw [hs]
    refine tr_cmp2 rfl (m32_of (by omega)) (m32_of (by omega)) (fun c1 => absurd c1 (by show ¬ _ ≤ _; omega)) (fun _ => ?_)
    iterate 3 (refine tr_mv rfl (fun _ => rfl) ?_)
    refine tr_at2 ha (m32_of (by omega)) rfl rfl ?_
    rw [hs, rget_mid rfl]
    iterate 1 (refine tr_mv rfl (fun _ => rfl) ?_)
    refine tr_vc (q := 3) rfl ⟨by decide, rfl⟩ rfl rfl rfl (s_21 (B := bOf σ) (M := kOf σ) (fun _ _ => rfl) (fun _ _ => rfl) hB hM hb (hin x (by simp)) (by omega) ?_)
    iterate 2 (refine tr_mv rfl (fun _ => rfl) ?_)
    show Tr Ls N 20 6 [some (mP (some 3)), some (mP (some a)), some (mP (some b)), some (mI ((done.length : Int) + 1))] [] _ post
    have hx := apart1_len (bOf σ) (kOf σ) x
    rw [show (done.length : Int) + 1 = ((done ++ [x]).length : Int) by simp]
    refine ih (done ++ [x]) _ hB hM (by rw [setR_ne _ _ hab, hs]; simp) (by rw [setR_same]; simp; omega) ?_
    rw [setR_same, setR_setR]
    simpa [bOf_setR, kOf_setR] using K
theorem foldl_sink_len : ∀ (xs p : List Int), (xs.foldl (fun p x => sink x p) p).length = p.length + xs.length
  | [], p => rfl
  | x :: xs, p => by
    show (xs.foldl (fun p x => sink x p) (sink x p)).length = _
    rw [foldl_sink_len xs, sink_len]
    simp
    omega
theorem s_20_loop2 (hb : isRow b n') : ∀ (rest p : List Int) (σ : Sg) (y : Option mV), σ.1 b = p.reverse ++ rest → 1 ≤ p.length → post (.inl none) (setR σ b (rest.foldl (fun p x => sink x p) p).reverse) →
    Tr Ls N 20 32 [some (mP (some 3)), y, some (mP (some b)), some (mI (p.length : Int))] [] σ post := by
  intro rest
  induction rest with
  | nil =>
    intro p σ y hs hp K
    refine tr_fact fun ⟨h0, hr⟩ => ?_
    have hlb := rep_len hr hb
    have hsm := isRow_small hb
    rw [List.append_nil] at hs
    have hlen : (σ.1 b).length = p.length := by rw [hs]; simp
    iterate 2 (refine tr_mv rfl (fun _ => rfl) ?_)
    refine tr_size hb rfl rfl ?_
    refine tr_cmp2 rfl (m32_of (by omega)) (m32_of (by omega)) (fun _ => ?_) (fun c1 => absurd (show ((σ.1 b).length : Int) ≤ (p.length : Int) by omega) c1)
    refine tr_ret rfl (fun _ => rfl) ?_
    rw [show (List.foldl (fun p x => sink x p) p []).reverse = σ.1 b from hs.symm, setR_self] at K
    exact K
  | cons x rest ih =>
    intro p σ y hs hp K
    refine tr_fact fun ⟨h0, hr⟩ => ?_
    have hlb := rep_len hr hb
    have hsm := isRow_small hb
    have hlen : (σ.1 b).length = p.length + 1 + rest.length := by rw [hs]; simp; omega
    iterate 2 (refine tr_mv rfl (fun _ => rfl) ?_)
    refine tr_size hb rfl rfl ?_
    refine tr_cmp2 rfl (m32_of (by omega)) (m32_of (by omega)) (fun c1 => absurd c1 (by show ¬ _ ≤ _; omega)) (fun _ => ?_)
    iterate 2 (refine tr_mv rfl (fun _ => rfl) ?_)
    refine tr_stat rfl rfl rfl (s_22 hb p x rest (by omega) hs rfl ?_)
    iterate 2 (refine tr_mv rfl (fun _ => rfl) ?_)
    show Tr Ls N 20 32 [some (mP (some 3)), y, some (mP (some b)), some (mI ((p.length : Int) + 1))] [] _ post
    rw [show (p.length : Int) + 1 = ((sink x p).length : Int) by rw [sink_len]; omega]
    refine ih (sink x p) _ y (by rw [setR_same]) (by rw [sink_len]; omega) ?_
    rw [setR_setR]
    exact K
theorem s_20 (ha : isRow a n) (hb : isRow b n') (hab : a ≠ b) (hB : ∀ s, in32 (bOf σ s)) (hM : ∀ s, in32 (kOf σ s)) (hl : 3 * (σ.1 a).length ≤ n') (K : post (.inl none) (setR σ b (sorted1 ((σ.1 a).flatMap (apart1 (bOf σ) (kOf σ)))))) :
    Tr Ls N 20 0 [some (mP (some 3)), some (mP (some a)), some (mP (some b)), none] [] σ post := by
  iterate 1 (refine tr_mv rfl (fun _ => rfl) ?_)
  refine tr_clear hb rfl rfl ?_
  iterate 2 (refine tr_mv rfl (fun _ => rfl) ?_)
  refine s_20_loop1 ha hb hab (σ.1 a) [] _ hB hM (by rw [setR_ne _ _ hab]; rfl) (by rw [setR_same]; simpa using hl) ?_
  rw [setR_same, setR_setR, List.nil_append]
  iterate 2 (refine tr_mv rfl (fun _ => rfl) ?_)
  show Tr Ls N 20 32 [some (mP (some 3)), some (mP (some a)), some (mP (some b)), some (mI 1)] [] _ post
  generalize hg : ((σ.1 a).flatMap (apart1 (bOf (setR σ b [])) (kOf (setR σ b [])))) = g
  have hg' : ((σ.1 a).flatMap (apart1 (bOf σ) (kOf σ))) = g := hg
  rw [hg'] at K
  cases g with
  | nil =>
    iterate 2 (refine tr_mv rfl (fun _ => rfl) ?_)
    refine tr_size hb rfl rfl ?_
    rw [setR_same]
    refine tr_cmp2 rfl (m32_of (by omega)) (m32_of (x := 0) ⟨by decide, by decide⟩) (fun _ => ?_) (fun c1 => absurd (show (0 : Int) ≤ 1 by decide) c1)
    exact tr_ret rfl (fun _ => rfl) K
  | cons x xs =>
    refine s_20_loop2 hb xs [x] _ _ (by rw [setR_same]; rfl) (Nat.le_refl _) ?_
    rw [setR_setR]
    exact K
end APART
