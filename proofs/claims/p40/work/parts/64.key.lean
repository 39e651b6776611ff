/-! Keys. -/
def runB (l : Bool) (n : Nat) : List Int := if 30 < n then 33 :: runB l (n - 30) else if 0 < n then [if l = true then (n : Int) + 1 else 64 - (n : Int)] else []
termination_by n
decreasing_by omega
def runsB : Nat → List Int → List Int
  | n, [] => runB true n
  | n, w :: ws => if w = 1 then runsB (n + 1) ws else runB false n ++ (64 + w) :: runsB 0 ws
def lvKey (lv sh bw : Int) (els : List El) : List Int := (if lv = 2 ∨ lv = 3 then runsB 0 (lvRow lv sh bw els) else (lvRow lv sh bw els).map (fun w => w + 1)) ++ [1]
/-- the key's levels from lv on, d of them -/
def keyLv (sh bw : Int) (els : List El) : Nat → Int → List Int
  | 0, _ => []
  | d + 1, lv => lvKey lv sh bw els ++ keyLv sh bw els d (lv + 1)
def keyOf (D : TD) (o : Nat → Int) (d : Nat) (ss : List Int) : List Int := keyLv (o 0) (o 1) (gthR D (o 2) ss).1 d 1
/-- one row against another -/
def cmpL : List Int → List Int → Int
  | [], [] => 0
  | [], _ :: _ => -1
  | _ :: _, [] => 1
  | x :: xs, y :: ys => if x = y then cmpL xs ys else if x < y then -1 else 1
theorem runB_len (l : Bool) (n : Nat) : (runB l n).length ≤ n := by
  induction n using Nat.strongRecOn with
  | ind n ih =>
    rw [runB]
    split
    · have := ih (n - 30) (by omega)
      simp
      omega
    · split
      · simp; omega
      · simp
theorem runsB_len : ∀ (ws : List Int) (n : Nat), (runsB n ws).length ≤ n + ws.length
  | [], n => runB_len true n
  | w :: ws, n => by
    unfold runsB
    split
    · have := runsB_len ws (n + 1)
      simp
      omega
    · have := runsB_len ws 0
      have := runB_len false n
      simp
      omega
theorem lvKey_len (lv sh bw : Int) (els : List El) : (lvKey lv sh bw els).length ≤ els.length + 1 := by
  have h := lvRow_len lv sh bw els
  unfold lvKey
  split
  · have := runsB_len (lvRow lv sh bw els) 0
    simp
    omega
  · simp
    omega
theorem gth_len {D : TD} {bv : Int} {ss : List Int} : ∀ (f p : Nat) (S : GS), p ≤ ss.length → S.1.length ≤ 3 * p → (gth D bv ss f p S).1.length ≤ 3 * ss.length
  | 0, p, S, h1, h2 => by unfold gth; omega
  | f + 1, p, S, h1, h2 => by
    unfold gth
    split
    · omega
    · rename_i c0
      split
      · exact gth_len f (p + 1) S (by omega) (by omega)
      · have h := gStep_adv (D := D) (bv := bv) (v := (p : Int)) (S := S) (show p < ss.length by omega)
        exact gth_len f _ _ (by omega) (by omega)
theorem gthR_len (D : TD) (bv : Int) (ss : List Int) : (gthR D bv ss).1.length ≤ 3 * ss.length := gth_len _ 0 _ (Nat.zero_le _) (Nat.zero_le _)
section KEY
variable {Ls N N1 N2 k pc n n' nn b c t u a q d : Nat} {L L0 : mLs} {st r as : List mV} {h h' : mH} {σ σ' σ'' : Sg} {post : tP} {x y z x' y' i i' s v m w kd bv lv sh : Int} {xs ys tk ss : List Int} {els : List El} {e : mE} {D : TD} {o : Nat → Int} {S : GS} {ee : El} {l : Bool}
theorem s_6 (hb : isRow b n) (l : Bool) (v : Int) : ∀ (m : Nat) (σ : Sg), m < 1000 → (σ.1 b).length + m ≤ n → post (.inl none) (setR σ b (σ.1 b ++ runB l m)) → Tr Ls N 6 2 [some (mI v), some (mI (b2 (l = true))), some (mP (some b)), some (mI (m : Int))] [] σ post := by
  intro m
  induction m using Nat.strongRecOn with
  | ind m ih =>
    intro σ hm hl K
    rw [runB] at K
    iterate 2 (refine tr_mv rfl (fun _ => rfl) ?_)
    refine tr_cmp2 rfl (m32_of (by omega)) (m32_of (by omega)) (fun c1 => ?_) (fun c1 => ?_)
    · rw [if_neg (by omega)] at K
      iterate 1 (refine tr_mv rfl (fun _ => rfl) ?_)
      refine tr_if2 rfl (m32_of (by omega)) (fun c2 => ?_) (fun c2 => ?_)
      · rw [if_neg (by omega), List.append_nil, setR_self] at K
        exact tr_ret rfl (fun _ => rfl) K
      · rw [if_pos (by omega)] at K
        have h39 : ∀ w, w = (if l = true then (m : Int) + 1 else 64 - (m : Int)) → Tr Ls N 6 39 [some (mI v), some (mI (b2 (l = true))), some (mP (some b)), some (mI (m : Int))] [mI w, mP (some b)] σ post := by
          intro w e
          rw [← e] at K
          have hw : in32 w := by rw [e]; split <;> omega
          refine tr_put hb hw rfl rfl ?_
          rw [rput_lt (by omega)]
          exact tr_ret rfl (fun _ => rfl) K
        iterate 2 (refine tr_mv rfl (fun _ => rfl) ?_)
        first | refine tr_ib rfl (fun c3 => ?_) (fun c3 => ?_) | refine tr_ibn rfl (fun c3 => ?_) (fun c3 => ?_)
        · iterate 3 (refine tr_mv rfl (fun _ => rfl) ?_)
          exact h39 _ (by rw [if_neg c3])
        · iterate 4 (refine tr_mv rfl (fun _ => rfl) ?_)
          exact h39 _ (by rw [if_pos c3])
    · rw [if_pos (by omega)] at K
      iterate 2 (refine tr_mv rfl (fun _ => rfl) ?_)
      refine tr_put hb (by omega) rfl rfl ?_
      rw [rput_lt (by omega)]
      iterate 2 (refine tr_mv rfl (fun _ => rfl) ?_)
      show Tr Ls N 6 2 [some (mI v), some (mI (b2 (l = true))), some (mP (some b)), some (mI ((m : Int) + -30))] [] _ post
      rw [show (m : Int) + -30 = ((m - 30 : Nat) : Int) by omega]
      refine ih (m - 30) (by omega) _ (by omega) (by rw [setR_same]; simp; omega) ?_
      rw [setR_same, setR_setR]
      simpa using K
theorem s_6m (hb : isRow b n) (hl : (σ.1 b).length + d ≤ n) (hd : d < 1000) (hx : x = (d : Int)) (hy : y = b2 (l = true)) (K : post (.inl none) (setR σ b (σ.1 b ++ runB l d))) : Tr Ls N 6 0 [some (mI x), some (mI y), some (mP (some b)), none] [] σ post := by
  subst hx
  subst hy
  iterate 2 (refine tr_mv rfl (fun _ => rfl) ?_)
  exact s_6 hb l _ d σ hd hl K
theorem s_4 (ha : isRow a n') (hb : isRow b n) (hab : a ≠ b) (hin : ∀ w ∈ σ.1 a, in32 (w + 1)) (hl : (σ.1 b).length + (σ.1 a).length ≤ n) (K : post (.inl none) (setR σ b (σ.1 b ++ (σ.1 a).map (fun w => w + 1)))) : Tr Ls N 4 0 [some (mP (some a)), some (mP (some b)), none] [] σ post := by
  refine tr_fact fun ⟨h0, hr⟩ => ?_
  have hsm := isRow_small ha
  have hla := rep_len hr ha
  have loop : ∀ (rest done : List Int) (σ' : Sg), σ.1 a = done ++ rest → σ'.1 a = σ.1 a → (σ'.1 b).length + rest.length ≤ n → post (.inl none) (setR σ' b (σ'.1 b ++ rest.map (fun w => w + 1))) → Tr Ls N 4 2 [some (mP (some a)), some (mP (some b)), some (mI (done.length : Int))] [] σ' post := by
    intro rest
    induction rest with
    | nil =>
      intro done σ' e e2 hl' K'
      rw [List.append_nil] at e
      rw [List.map_nil, List.append_nil, setR_self] at K'
      iterate 2 (refine tr_mv rfl (fun _ => rfl) ?_)
      refine tr_size ha rfl rfl ?_
      rw [e2, e]
      rw [e] at hla
      refine tr_cmp2 rfl (m32_of (by omega)) (m32_of (by omega)) (fun _ => ?_) (fun c1 => absurd (Int.le_refl _) c1)
      exact tr_ret rfl (fun _ => rfl) K'
    | cons y rest ih =>
      intro done σ' e e2 hl' K'
      have hlen : (σ.1 a).length = done.length + 1 + rest.length := by rw [e]; simp; omega
      have hl2 : (y :: rest).length = rest.length + 1 := rfl
      iterate 2 (refine tr_mv rfl (fun _ => rfl) ?_)
      refine tr_size ha rfl rfl ?_
      rw [e2]
      refine tr_cmp2 rfl (m32_of (by omega)) (m32_of (by omega)) (fun c1 => absurd c1 (by show ¬ _ ≤ _; omega)) (fun _ => ?_)
      iterate 3 (refine tr_mv rfl (fun _ => rfl) ?_)
      refine tr_at2 ha (m32_of (by omega)) rfl rfl ?_
      rw [e2, rget_app e]
      iterate 2 (refine tr_mv rfl (fun _ => rfl) ?_)
      refine tr_put hb (hin y (by rw [e]; simp)) rfl rfl ?_
      rw [rput_lt (by omega)]
      iterate 2 (refine tr_mv rfl (fun _ => rfl) ?_)
      show Tr Ls N 4 2 [some (mP (some a)), some (mP (some b)), some (mI ((done.length : Int) + 1))] [] _ post
      rw [show (done.length : Int) + 1 = ((done ++ [y]).length : Int) by simp]
      refine ih (done ++ [y]) _ (by rw [e]; simp) (by rw [setR_ne _ _ hab]; exact e2) (by rw [setR_same]; simp; omega) ?_
      rw [setR_same, setR_setR]
      simpa using K'
  iterate 2 (refine tr_mv rfl (fun _ => rfl) ?_)
  exact loop (σ.1 a) [] σ rfl rfl hl K
theorem s_5 (ha : isRow a n') (hb : isRow b n) (hab : a ≠ b) (hin : ∀ w ∈ σ.1 a, in32 (64 + w)) (hl : (σ.1 b).length + (σ.1 a).length ≤ n) (K : post (.inl none) (setR σ b (σ.1 b ++ runsB 0 (σ.1 a)))) : Tr Ls N 5 0 [some (mP (some a)), some (mP (some b)), none, none] [] σ post := by
  refine tr_fact fun ⟨h0, hr⟩ => ?_
  have hsm := isRow_small ha
  have hla := rep_len hr ha
  have hin1 := rep_in hr ha
  have loop : ∀ (rest done : List Int) (m : Nat) (σ' : Sg), σ.1 a = done ++ rest → m ≤ done.length → σ'.1 a = σ.1 a → (σ'.1 b).length + m + rest.length ≤ n → post (.inl none) (setR σ' b (σ'.1 b ++ runsB m rest)) → Tr Ls N 5 4 [some (mP (some a)), some (mP (some b)), some (mI (m : Int)), some (mI (done.length : Int))] [] σ' post := by
    intro rest
    induction rest with
    | nil =>
      intro done m σ' e hm e2 hl' K'
      rw [List.append_nil] at e
      iterate 2 (refine tr_mv rfl (fun _ => rfl) ?_)
      refine tr_size ha rfl rfl ?_
      rw [e2, e]
      rw [e] at hla
      refine tr_cmp2 rfl (m32_of (by omega)) (m32_of (by omega)) (fun _ => ?_) (fun c1 => absurd (Int.le_refl _) c1)
      iterate 3 (refine tr_mv rfl (fun _ => rfl) ?_)
      refine tr_stat rfl rfl rfl (s_6m (d := m) (l := true) hb (by simpa using hl') (by omega) rfl rfl ?_)
      exact tr_ret rfl (fun _ => rfl) K'
    | cons y rest ih =>
      intro done m σ' e hm e2 hl' K'
      have hlen : (σ.1 a).length = done.length + 1 + rest.length := by rw [e]; simp; omega
      have hl2 : (y :: rest).length = rest.length + 1 := rfl
      have hy := hin1 y (by rw [e]; simp)
      unfold runsB at K'
      iterate 2 (refine tr_mv rfl (fun _ => rfl) ?_)
      refine tr_size ha rfl rfl ?_
      rw [e2]
      refine tr_cmp2 rfl (m32_of (by omega)) (m32_of (by omega)) (fun c1 => absurd c1 (by show ¬ _ ≤ _; omega)) (fun _ => ?_)
      iterate 2 (refine tr_mv rfl (fun _ => rfl) ?_)
      refine tr_at2 ha (m32_of (by omega)) rfl rfl ?_
      rw [e2, rget_app e]
      iterate 1 (refine tr_mv rfl (fun _ => rfl) ?_)
      refine tr_cmp2 rfl (m32_of (by omega)) (m32_of (by omega)) (fun c1 => ?_) (fun c1 => ?_)
      · rw [if_neg c1] at K'
        iterate 3 (refine tr_mv rfl (fun _ => rfl) ?_)
        refine tr_stat rfl rfl rfl (s_6m (d := m) (l := false) hb (by omega) (by omega) rfl rfl ?_)
        iterate 6 (refine tr_mv rfl (fun _ => rfl) ?_)
        have hrl := runB_len false m
        refine tr_at2 ha (m32_of (by omega)) rfl rfl ?_
        rw [setR_ne _ _ hab, e2, rget_app e]
        iterate 1 (refine tr_mv rfl (fun _ => rfl) ?_)
        refine tr_put hb (hin y (by rw [e]; simp)) rfl rfl ?_
        rw [setR_same, rput_lt (by simp; omega), setR_setR]
        iterate 2 (refine tr_mv rfl (fun _ => rfl) ?_)
        show Tr Ls N 5 4 [some (mP (some a)), some (mP (some b)), some (mI ((0 : Nat) : Int)), some (mI ((done.length : Int) + 1))] [] _ post
        rw [show (done.length : Int) + 1 = ((done ++ [y]).length : Int) by simp]
        refine ih (done ++ [y]) 0 _ (by rw [e]; simp) (Nat.zero_le _) (by rw [setR_ne _ _ hab]; exact e2) (by rw [setR_same]; simp; omega) ?_
        rw [setR_same, setR_setR]
        simpa using K'
      · have c1 : y = 1 := Decidable.byContradiction c1
        rw [if_pos c1] at K'
        iterate 4 (refine tr_mv rfl (fun _ => rfl) ?_)
        show Tr Ls N 5 4 [some (mP (some a)), some (mP (some b)), some (mI ((m : Int) + 1)), some (mI ((done.length : Int) + 1))] [] _ post
        rw [show (done.length : Int) + 1 = ((done ++ [y]).length : Int) by simp, show (m : Int) + 1 = ((m + 1 : Nat) : Int) by omega]
        exact ih (done ++ [y]) (m + 1) _ (by rw [e]; simp) (by simp; omega) e2 (by omega) K'
  iterate 4 (refine tr_mv rfl (fun _ => rfl) ?_)
  exact loop (σ.1 a) [] 0 σ rfl (Nat.le_refl _) rfl (by omega) K
theorem s_192 (ha : isRow a n) (hb : isRow b n') (K : post (.inl (some (mI (cmpL (σ.1 a) (σ.1 b))))) σ) : Tr Ls N 192 0 [some (mP (some a)), some (mP (some b)), none, none] [] σ post := by
  refine tr_fact fun ⟨h0, hr⟩ => ?_
  have s1 := isRow_small ha
  have s2 := isRow_small hb
  have l1 := rep_len hr ha
  have l2 := rep_len hr hb
  have i1 := rep_in hr ha
  have i2 := rep_in hr hb
  have loop : ∀ (r1 r2 d1 d2 : List Int), σ.1 a = d1 ++ r1 → σ.1 b = d2 ++ r2 → d2.length = d1.length → post (.inl (some (mI (cmpL r1 r2)))) σ → Tr Ls N 192 14 [some (mP (some a)), some (mP (some b)), some (mI (if ((σ.1 b).length : Int) < ((σ.1 a).length : Int) then ((σ.1 b).length : Int) else ((σ.1 a).length : Int))), some (mI (d1.length : Int))] [] σ post := by
    intro r1
    have hend : ∀ (r1 r2 d1 d2 : List Int), σ.1 a = d1 ++ r1 → σ.1 b = d2 ++ r2 → d2.length = d1.length → (r1 = [] ∨ r2 = []) → post (.inl (some (mI (cmpL r1 r2)))) σ → Tr Ls N 192 14 [some (mP (some a)), some (mP (some b)), some (mI (if ((σ.1 b).length : Int) < ((σ.1 a).length : Int) then ((σ.1 b).length : Int) else ((σ.1 a).length : Int))), some (mI (d1.length : Int))] [] σ post := by
      intro r1 r2 d1 d2 e1 e2 hd hor K'
      have g1 : (σ.1 a).length = d1.length + r1.length := by rw [e1]; simp
      have g2 : (σ.1 b).length = d2.length + r2.length := by rw [e2]; simp
      have hz : r1.length = 0 ∨ r2.length = 0 := by
        rcases hor with g | g
        · exact Or.inl (by rw [g]; rfl)
        · exact Or.inr (by rw [g]; rfl)
      have hm : (if ((σ.1 b).length : Int) < ((σ.1 a).length : Int) then ((σ.1 b).length : Int) else ((σ.1 a).length : Int)) ≤ (d1.length : Int) ∧ 0 ≤ (if ((σ.1 b).length : Int) < ((σ.1 a).length : Int) then ((σ.1 b).length : Int) else ((σ.1 a).length : Int)) := by split <;> omega
      generalize (if ((σ.1 b).length : Int) < ((σ.1 a).length : Int) then ((σ.1 b).length : Int) else ((σ.1 a).length : Int)) = w at *
      iterate 2 (refine tr_mv rfl (fun _ => rfl) ?_)
      refine tr_cmp2 rfl (m32_of (by omega)) (m32_of (by omega)) (fun _ => ?_) (fun c1 => absurd hm.1 c1)
      iterate 1 (refine tr_mv rfl (fun _ => rfl) ?_)
      refine tr_size ha rfl rfl ?_
      iterate 1 (refine tr_mv rfl (fun _ => rfl) ?_)
      refine tr_size hb rfl rfl ?_
      refine tr_stat rfl rfl rfl (s_327 (by omega) (by omega) ?_)
      refine tr_ri rfl ?_ K'
      unfold icmp
      cases r1 with
      | nil =>
        cases r2 with
        | nil => rw [if_neg (by simp at g1 g2; omega), if_pos (by simp at g1 g2; omega)]; rfl
        | cons z zs => rw [if_pos (by simp at g1 g2; omega)]; rfl
      | cons z zs =>
        cases r2 with
        | nil => rw [if_neg (by simp at g1 g2; omega), if_neg (by simp at g1 g2; omega)]; rfl
        | cons z' zs' => simp at hz
    induction r1 with
    | nil => intro r2 d1 d2 e1 e2 hd K'; exact hend [] r2 d1 d2 e1 e2 hd (Or.inl rfl) K'
    | cons z r1 ih =>
      intro r2 d1 d2 e1 e2 hd K'
      cases r2 with
      | nil => exact hend (z :: r1) [] d1 d2 e1 e2 hd (Or.inr rfl) K'
      | cons z' r2 =>
        have g1 : (σ.1 a).length = d1.length + 1 + r1.length := by rw [e1]; simp; omega
        have g2 : (σ.1 b).length = d2.length + 1 + r2.length := by rw [e2]; simp; omega
        have hz := i1 z (by rw [e1]; simp)
        have hz' := i2 z' (by rw [e2]; simp)
        have hb2 : rget (σ.1 b) (d1.length : Int) = z' := by rw [← hd]; exact rget_app e2
        have hm : (d1.length : Int) < (if ((σ.1 b).length : Int) < ((σ.1 a).length : Int) then ((σ.1 b).length : Int) else ((σ.1 a).length : Int)) ∧ (if ((σ.1 b).length : Int) < ((σ.1 a).length : Int) then ((σ.1 b).length : Int) else ((σ.1 a).length : Int)) < 1000 := by split <;> omega
        generalize hw : (if ((σ.1 b).length : Int) < ((σ.1 a).length : Int) then ((σ.1 b).length : Int) else ((σ.1 a).length : Int)) = w at *
        iterate 2 (refine tr_mv rfl (fun _ => rfl) ?_)
        refine tr_cmp2 rfl (m32_of (by omega)) (m32_of (by omega)) (fun c1 => absurd c1 (by show ¬ _ ≤ _; omega)) (fun _ => ?_)
        iterate 2 (refine tr_mv rfl (fun _ => rfl) ?_)
        refine tr_at2 ha (m32_of (by omega)) rfl rfl ?_
        rw [rget_app e1]
        iterate 2 (refine tr_mv rfl (fun _ => rfl) ?_)
        refine tr_at2 hb (m32_of (by omega)) rfl rfl ?_
        rw [hb2]
        unfold cmpL at K'
        refine tr_cmp2 rfl (m32_of (by omega)) (m32_of (by omega)) (fun c2 => ?_) (fun c2 => ?_)
        · rw [if_pos c2] at K'
          iterate 2 (refine tr_mv rfl (fun _ => rfl) ?_)
          show Tr Ls N 192 14 [some (mP (some a)), some (mP (some b)), some (mI w), some (mI ((d1.length : Int) + 1))] [] _ post
          rw [show (d1.length : Int) + 1 = ((d1 ++ [z]).length : Int) by simp]
          exact ih r2 (d1 ++ [z]) (d2 ++ [z']) (by rw [e1]; simp) (by rw [e2]; simp) (by simp; omega) K'
        · rw [if_neg c2] at K'
          iterate 2 (refine tr_mv rfl (fun _ => rfl) ?_)
          refine tr_at2 ha (m32_of (by omega)) rfl rfl ?_
          rw [rget_app e1]
          iterate 2 (refine tr_mv rfl (fun _ => rfl) ?_)
          refine tr_at2 hb (m32_of (by omega)) rfl rfl ?_
          rw [hb2]
          refine tr_cmp2 rfl (m32_of (by omega)) (m32_of (by omega)) (fun c3 => ?_) (fun c3 => ?_)
          · rw [if_neg (by omega)] at K'
            iterate 1 (refine tr_mv rfl (fun _ => rfl) ?_)
            exact tr_ri rfl rfl K'
          · rw [if_pos (by omega)] at K'
            iterate 2 (refine tr_mv rfl (fun _ => rfl) ?_)
            exact tr_ri rfl rfl K'
  iterate 1 (refine tr_mv rfl (fun _ => rfl) ?_)
  refine tr_size ha rfl rfl ?_
  iterate 1 (refine tr_mv rfl (fun _ => rfl) ?_)
  refine tr_size hb rfl rfl ?_
  refine tr_stat rfl rfl rfl (s_330 (by omega) (by omega) ?_)
  iterate 3 (refine tr_mv rfl (fun _ => rfl) ?_)
  exact loop (σ.1 a) (σ.1 b) [] [] rfl rfl rfl K
end KEY
