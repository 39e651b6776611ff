/-! The class's methods, but for the constructors, make no cells but exceptions: what doesn't throw costs nothing. -/
def inS (k : Nat) : Bool := Nat.blt k 331 && !([0, 12, 24, 34, 48, 71, 77, 86, 92, 105, 127] : List Nat).contains k
def okX (e : mE) : Bool := match e.1 with
  | .newarray _ => false
  | .anewarray _ => false
  | .invokespecial _ => false
  | .new _ => Nat.beq e.2.2.2.1 1
  | .invokestatic _ => inS e.2.2.1
  | .invokevirtual _ => inS e.2.2.1
  | _ => true
theorem okX_all : ∀ k, k < 331 → (inS k = false ∨ (mtab k).all (fun q => okX q.2) = true) := by decide +kernel
theorem okX_of {k pc : Nat} {e : mE} (hk : inS k = true) (he : mPg.1 k pc = some e) : okX e = true := by
  have hk2 := hk
  unfold inS at hk2
  simp only [Bool.and_eq_true] at hk2
  have hk1 : k < 331 := by simpa using hk2.1
  rcases okX_all k hk1 with g | g
  · rw [hk] at g; cases g
  · exact List.all_eq_true.mp g (pc, e) (mP1 he).2
theorem inS_ct {k pc E : Nat} {q : Nat × Nat} (hk : inS k = true) (h : mPg.2.1 k pc E = some q) : mPg.1 k q.1 = none := by
  unfold inS at hk
  simp only [Bool.and_eq_true] at hk
  have hk1 : k < 331 := by simpa using hk.1
  rcases (mOK_cat k pc E).2 q h with g | ⟨-, hh, pre, x, suf, g, -⟩
  · exact g
  · exfalso
    unfold mHn at g
    rw [if_neg (by omega)] at g
    cases g
def nz (o : Option mO) : Prop := (∀ x, o = some (.inl x) → x.2.2.2.2.1 = 0 ∧ x.2.2.2.2.2 = 0) ∧ ∀ y, o = some (.inr (.inl y)) → inS y.1 = true
section NOX
variable {Ls N M k pc n a q kd nn i : Nat} {L : mLs} {st r : List mV} {h : mH} {σ σ' : Sg} {post : tP} {x y : Int} {o1 o2 : Option mO} {c : Prop} {b : Bool}
theorem nz_none : nz none := ⟨fun x e => (by cases e), fun x e => (by cases e)⟩
theorem nz_nx : nz (mnx pc L st h) := ⟨fun x e => (by cases e; exact ⟨rfl, rfl⟩), fun x e => (by cases e)⟩
theorem nz_r {y : Option mV ⊕ Nat} : nz (some (.inr (.inr y))) := ⟨fun x e => (by cases e), fun x e => (by cases e)⟩
theorem nz_ite [Decidable c] (h1 : nz o1) (h2 : nz o2) : nz (if c then o1 else o2) := by
  split
  · exact h1
  · exact h2
theorem nz_mi1 {f : Int → List mV → Option mO} (K : ∀ x r, nz (f x r)) : nz (mi1 st f) := by
  unfold mi1
  split
  · exact K _ _
  · exact nz_none
theorem nz_mi2 {f : Int → Int → List mV → Option mO} (K : ∀ x y r, nz (f x y r)) : nz (mi2 st f) := by
  unfold mi2
  split
  · exact K _ _ _
  · exact nz_none
theorem nz_mj2 {f : Int → Int → List mV → Option mO} (K : ∀ x y r, nz (f x y r)) : nz (mj2 st f) := by
  unfold mj2
  split
  · exact K _ _ _
  · exact nz_none
theorem nz_mji {f : Int → Int → List mV → Option mO} (K : ∀ x y r, nz (f x y r)) : nz (mji st f) := by
  unfold mji
  split
  · exact K _ _ _
  · exact nz_none
theorem nz_mp1 {f : Nat → List mV → Option mO} (K : ∀ x r, nz (f x r)) : nz (mp1 st f) := by
  unfold mp1
  split
  · exact K _ _
  · exact nz_none
theorem nz_mix {f : Nat → Int → List mV → Option mO} (K : ∀ x y r, nz (f x y r)) : nz (mix st f) := by
  unfold mix
  split
  · exact K _ _ _
  · exact nz_none
theorem nz_mci {f : Int → Option mO} (K : ∀ x, nz (f x)) : nz (mci i L f) := by
  unfold mci
  split
  · exact K _
  · exact nz_none
theorem nz_mcj {f : Int → Option mO} (K : ∀ x, nz (f x)) : nz (mcj i L f) := by
  unfold mcj
  split
  · exact K _
  · exact nz_none
theorem nz_mcp {f : Nat → Option mO} (K : ∀ x, nz (f x)) : nz (mcp i L f) := by
  unfold mcp
  split
  · exact K _
  · exact nz_none
theorem nz_mst {v : mV} : nz (mst i v pc L r h) := nz_ite nz_nx nz_none
theorem nz_mif {cd : Jvm.ClassFile.Cond} (h1 : nz o1) (h2 : nz o2) : nz (mif cd x y o1 o2) := nz_ite h1 h2
theorem nz_mrd {f : Int → Option mO} (K : ∀ x, nz (f x)) : nz (mrd h kd a x f) := by
  unfold mrd
  split
  · exact nz_ite (K _) nz_none
  · exact nz_none
theorem nz_mwr : nz (mwr h kd a x y fun h' => mnx pc L r h') := by
  unfold mwr
  split
  · exact nz_ite nz_nx nz_none
  · exact nz_none
theorem nz_call (hk : inS k = true) : nz (mcall k n st) := nz_ite ⟨fun x e => (by cases e), fun x e => (by cases e; exact hk)⟩ nz_none
set_option maxHeartbeats 1600000 in
theorem nz_step (fd : Nat → Nat → Int) (nf : Nat → Nat) (e : mE) (hx : okX e = true) : nz (mstep fd nf e pc L st h) := by
  obtain ⟨i, n, a, b, c⟩ := e
  unfold mstep
  dsimp only
  cases i <;> simp only [okX] at hx <;> (try (cases hx; done)) <;> dsimp only
  case new =>
    have hb : b = 1 := Nat.eq_of_beq_eq_true hx
    rw [if_pos hb]
    exact nz_ite nz_r nz_none
  all_goals repeat' (first | exact nz_none | exact nz_nx | exact nz_r | exact nz_mst | exact nz_call hx | exact nz_mwr | (refine nz_mi1 (fun _ _ => ?_)) | (refine nz_mi2 (fun _ _ _ => ?_)) | (refine nz_mj2 (fun _ _ _ => ?_)) | (refine nz_mji (fun _ _ _ => ?_)) | (refine nz_mp1 (fun _ _ => ?_)) | (refine nz_mix (fun _ _ _ => ?_)) | (refine nz_mci (fun _ => ?_)) | (refine nz_mcj (fun _ => ?_)) | (refine nz_mcp (fun _ => ?_)) | (refine nz_mrd (fun _ => ?_)) | (refine nz_mif ?_ ?_) | split)
theorem nox_run : ∀ (f k pc : Nat) (L : mLs) (st : List mV) (h : mH) (r : mR), inS k = true → mrun mPg f k pc L st h = some r → (∃ v, r.1 = .inl v) → r.2.2.1 = 0 ∧ r.2.2.2 = 0 := by
  intro f
  induction f with
  | zero => intro k pc L st h r hk hr; cases hr
  | succ f ih =>
    intro k pc L st h r hk hr hv
    unfold mrun at hr
    split at hr
    · cases hr
    · rename_i e he
      have hz := nz_step (pc := pc) (L := L) (st := st) (h := h) mPg.2.2.2.1 mPg.2.2.2.2 e (okX_of hk he)
      split at hr
      · cases hr
      · rename_i pc' L' st' h' dc ds hs
        obtain ⟨o, h2, c, s, g1, g2⟩ := mbump_some hr
        obtain ⟨k1, k2⟩ := hz.1 _ hs
        dsimp only at k1 k2
        subst g2
        obtain ⟨k3, k4⟩ := ih _ _ _ _ _ _ hk g1 hv
        dsimp only at k3 k4 ⊢
        omega
      · rename_i k' as rest hs
        have hk' := hz.2 _ hs
        dsimp only at hk'
        split at hr
        · cases hr
        · rename_i v h' c s hc
          obtain ⟨o, h2, c2, s2, g1, g2⟩ := mbump_some hr
          obtain ⟨k1, k2⟩ := ih _ _ _ _ _ _ hk' hc ⟨v, rfl⟩
          subst g2
          obtain ⟨k3, k4⟩ := ih _ _ _ _ _ _ hk g1 hv
          dsimp only at k1 k2 k3 k4 ⊢
          omega
        · rename_i E h' c s hc
          split at hr
          · cases hr
            obtain ⟨v, hv⟩ := hv
            cases hv
          · rename_i pc' i' hq
            split at hr
            · obtain ⟨o, h2, c2, s2, g1, g2⟩ := mbump_some hr
              have hn := inS_ct hk hq
              exfalso
              cases f with
              | zero => cases g1
              | succ f =>
                unfold mrun at g1
                rw [hn] at g1
                cases g1
            · cases hr
      · cases hr
        exact ⟨rfl, rfl⟩
      · cases hr
        obtain ⟨v, hv⟩ := hv
        cases hv
/-- what answers has thrown nothing -/
theorem tr_nox (hk : inS k = true) (hT : Tr Ls M k pc L st σ (fun o σ' => (∃ v, o = .inl v) ∧ post o σ')) : Tr Ls N k pc L st σ post := fun h hr => by
  obtain ⟨f, o, h', c, s, σ', h1, h2, h3, h4, h5, h6⟩ := hT h hr
  obtain ⟨k1, k2⟩ := nox_run _ _ _ _ _ _ _ hk h1 h5
  dsimp only at k1 k2
  exact ⟨f, o, h', c, s, σ', h1, by omega, by omega, h4, h6⟩
end NOX
