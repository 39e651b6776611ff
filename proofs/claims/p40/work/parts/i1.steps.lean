/-! The small machine's steps over a tree: what is reckoned there is a run. -/
abbrev cx_H : Type := Nat × cx_T
/-- goes on | calls | returns -/
abbrev cx_O : Type := (Nat × mLs × List mV × cx_H) ⊕ ((Nat × List mV × List mV) ⊕ Option mV)
def cx_nx (pc : Nat) (L : mLs) (st : List mV) (H : cx_H) : Option cx_O := some (.inl (pc, L, st, H))
def cx_i1 (st : List mV) (f : Int → List mV → Option cx_O) : Option cx_O := match st with
  | .inl x :: r => f x r
  | _ => none
def cx_i2 (st : List mV) (f : Int → Int → List mV → Option cx_O) : Option cx_O := match st with
  | .inl y :: .inl x :: r => f x y r
  | _ => none
def cx_p1 (st : List mV) (f : Nat → List mV → Option cx_O) : Option cx_O := match st with
  | .inr (.inr (some a)) :: r => f a r
  | _ => none
def cx_ix (st : List mV) (f : Nat → Int → List mV → Option cx_O) : Option cx_O := match st with
  | .inl i :: .inr (.inr (some a)) :: r => f a i r
  | _ => none
def cx_ci (i : Nat) (L : mLs) (f : Int → Option cx_O) : Option cx_O := match L[i]? with
  | some (some (.inl x)) => f x
  | _ => none
def cx_cp (i : Nat) (L : mLs) (f : Nat → Option cx_O) : Option cx_O := match L[i]? with
  | some (some (.inr (.inr (some a)))) => f a
  | _ => none
def cx_to (i : Nat) (v : mV) (pc : Nat) (L : mLs) (r : List mV) (H : cx_H) : Option cx_O := cond (Nat.blt i L.length) (cond (mok i L) (cx_nx pc (L.set i (some v)) r H) none) none
def cx_b32 (x : Int) : Bool := match x with
  | .ofNat n => Nat.blt n 2147483648
  | .negSucc n => Nat.blt n 2147483648
def cx_if (c : Jvm.ClassFile.Cond) (x y : Int) (t f : Option cx_O) : Option cx_O := cond (cx_b32 x) (cond (cx_b32 y) (cond (mcnd c x y) t f) none) none
noncomputable def cx_rd (lo : Nat) (H : cx_H) (kd a : Nat) (i : Int) (f : Int → Option cx_O) : Option cx_O := match i with
  | .ofNat j => cond (cx_ok lo H.1 a kd) (cond (Nat.blt j (cx_S a / 32)) (f (cx_lf (cx_gt 10 (cx_gt 10 H.2 a) j))) none) none
  | .negSucc _ => none
noncomputable def cx_wr (lo : Nat) (H : cx_H) (kd a : Nat) (i x : Int) (f : cx_H → Option cx_O) : Option cx_O := match i with
  | .ofNat j => cond (cx_ok lo H.1 a kd) (cond (Nat.blt j (cx_S a / 32)) (f (H.1, cx_st 10 H.2 a (cx_st 10 (cx_gt 10 H.2 a) j (.num x)))) none) none
  | .negSucc _ => none
noncomputable def cx_nw (H : cx_H) (kd n : Nat) (u : cx_T) (f : Nat → cx_H → Option cx_O) : Option cx_O := cond (Nat.blt H.1 483) (cond (Nat.blt kd 32) (cond (Nat.beq (cx_S H.1) (kd + 32 * n)) (f H.1 (H.1 + 1, cx_st 10 H.2 H.1 u)) none) none) none
def cx_call (k n : Nat) (st : List mV) : Option cx_O := if n ≤ st.length ∧ ((st.take n).all mis1) = true ∧ ((st.drop n).map mcat).sum ≤ 8 then some (.inr (.inl (k, (st.take n).reverse, st.drop n))) else none
noncomputable def cx_stp (lo : Nat) (e : mE) (pc : Nat) (L : mLs) (st : List mV) (H : cx_H) : Option cx_O :=
  let i := e.1
  let n := pc + e.2.1
  let a := e.2.2.1
  let b := e.2.2.2.1
  let c := e.2.2.2.2
  match i with
  | .aload_n k => cx_cp k L fun q => cx_nx n L (mP (some q) :: st) H
  | .iload_n k => cx_ci k L fun x => cx_nx n L (mI x :: st) H
  | .iload k => cx_ci k L fun x => cx_nx n L (mI x :: st) H
  | .iconst x => cx_nx n L (mI x :: st) H
  | .bipush x => if -128 ≤ x ∧ x < 128 then cx_nx n L (mI x :: st) H else none
  | .sipush x => if -32768 ≤ x ∧ x < 32768 then cx_nx n L (mI x :: st) H else none
  | .istore_n k => cx_i1 st fun x r => cx_to k (mI x) n L r H
  | .istore k => cx_i1 st fun x r => cx_to k (mI x) n L r H
  | .iinc k x => cx_ci k L fun y => cx_to k (mI (y + x)) n L st H
  | .iadd => cx_i2 st fun x y r => cx_nx n L (mI (x + y) :: r) H
  | .isub => cx_i2 st fun x y r => cx_nx n L (mI (x - y) :: r) H
  | .imul => cx_i2 st fun x y r => cx_nx n L (mI (x * y) :: r) H
  | .dup => (match st with
    | v :: r => cond (mis1 v) (cx_nx n L (v :: v :: r) H) none
    | _ => none)
  | .dup2 => (match st with
    | v :: w :: r => cond (mis1 v) (cond (mis1 w) (cx_nx n L (v :: w :: v :: w :: r) H) none) none
    | _ => none)
  | .goto _ => cx_nx a L st H
  | .ifCond k _ => cx_i1 st fun x r => cx_if k x 0 (cx_nx a L r H) (cx_nx n L r H)
  | .if_icmp k _ => cx_i2 st fun x y r => cx_if k x y (cx_nx a L r H) (cx_nx n L r H)
  | .getfield _ => cx_p1 st fun q r => cond (cx_ok lo H.1 q (16 + a)) (cond (Nat.blt b (cx_S q / 32)) (cond (Nat.beq c 1) (match cx_lf (cx_gt 10 (cx_gt 10 H.2 q) b) with
      | .ofNat v => cx_nx n L (mP (some v) :: r) H
      | .negSucc _ => none) (cx_nx n L (mI (cx_lf (cx_gt 10 (cx_gt 10 H.2 q) b)) :: r) H)) none) none
  | .putfield _ => (match st with
    | .inl x :: .inr (.inr (some q)) :: r => cond (Nat.beq c 0) (cx_wr lo H (16 + a) q (Int.ofNat b) x fun H' => cx_nx n L r H') none
    | .inr (.inr (some v)) :: .inr (.inr (some q)) :: r => cond (Nat.beq c 1) (cx_wr lo H (16 + a) q (Int.ofNat b) (Int.ofNat v) fun H' => cx_nx n L r H') none
    | _ => none)
  | .arraylength => cx_p1 st fun q r => cond (cx_ok lo H.1 q 0) (cx_nx n L (mI (Int.ofNat (cx_S q / 32)) :: r) H) none
  | .iaload => cx_ix st fun q x r => cx_rd lo H 0 q x fun y => cx_nx n L (mI y :: r) H
  | .iastore => (match st with
    | .inl y :: .inl x :: .inr (.inr (some q)) :: r => cx_wr lo H 0 q x y fun H' => cx_nx n L r H'
    | _ => none)
  | .aastore => (match st with
    | .inr (.inr (some y)) :: .inl x :: .inr (.inr (some q)) :: r => cond (cx_ok lo H.1 y (16 + b)) (cx_wr lo H a q x (Int.ofNat y) fun H' => cx_nx n L r H') none
    | _ => none)
  | .newarray t => cx_i1 st fun x r => (match x with
    | .ofNat m => cond (Nat.blt m 1024) (cond (Nat.ble (mkArr t) 2) (cx_nw H (mkArr t) m (.num 0) fun q H' => cx_nx n L (mP (some q) :: r) H') none) none
    | .negSucc _ => none)
  | .anewarray _ => cx_i1 st fun x r => (match x with
    | .ofNat m => cond (Nat.blt m 1024) (cx_nw H a m (.num (-1)) fun q H' => cx_nx n L (mP (some q) :: r) H') none
    | .negSucc _ => none)
  | .new _ => cond (Nat.beq b 1) none (cx_nw H (16 + a) (mnf a) (cx_bl 10 0 1 (mfd a)) fun q H' => cx_nx n L (mP (some q) :: st) H')
  | .invokestatic _ => cx_call a b st
  | .invokevirtual _ => (match st[b]? with
    | some (.inr (.inr (some q))) => cond (cx_ok lo H.1 q (16 + c)) (cx_call a (b + 1) st) none
    | _ => none)
  | .invokespecial _ => cond (Nat.beq c 99) (cx_p1 st fun _ r => if (r.map mcat).sum ≤ 8 then cx_nx n L r H else none) (match st[b]? with
    | some (.inr (.inr (some _))) => cx_call a (b + 1) st
    | _ => none)
  | .ireturn => (match st with
    | [.inl x] => cond (Nat.beq c 0) (some (.inr (.inr (some (mI x))))) none
    | _ => none)
  | .return_ => (match st with
    | [] => some (.inr (.inr none))
    | _ => none)
  | _ => none
/-- the step over the heap is the one over the tree -/
def cx_oR (lo Ls : Nat) (h : mH) (x : Option cx_O) (y : Option mO) : Prop := match x with
  | none => True
  | some (.inl (pc, L, st, H)) => ∃ h' c s, y = some (.inl (pc, L, st, h', c, s)) ∧ cx_R lo Ls h' H ∧ cx_F lo h h' c s
  | some (.inr (.inl t)) => y = some (.inr (.inl t))
  | some (.inr (.inr v)) => y = some (.inr (.inr (.inl v)))
section SIM
variable {lo Ls n a kd pc k i : Nat} {h h1 : mH} {H H1 : cx_H} {x y : Int} {u : cx_T} {L : mLs} {st r : List mV} {v : mV} {P Q : Prop}
theorem cx_oI {c s : Nat} {yy : Option mO} (R : cx_R lo Ls h1 H1) (F : cx_F lo h h1 c s) (hy : yy = some (.inl (pc, L, st, h1, c, s))) : cx_oR lo Ls h (some (.inl (pc, L, st, H1))) yy := by
  show ∃ h' c s, yy = some (.inl (pc, L, st, h', c, s)) ∧ cx_R lo Ls h' H1 ∧ cx_F lo h h' c s
  exact ⟨h1, c, s, hy, R, F⟩
theorem cx_nx' (R : cx_R lo Ls h H) (pc : Nat) (L : mLs) (st : List mV) : cx_oR lo Ls h (cx_nx pc L st H) (mnx pc L st h) := cx_oI R (cx_F.rfl' h) rfl
theorem cx_nx1 (R : cx_R lo Ls h1 H1) (F : cx_F lo h h1 0 0) (pc : Nat) (L : mLs) (st : List mV) : cx_oR lo Ls h (cx_nx pc L st H1) (mnx pc L st h1) := cx_oI R F rfl
theorem cx_i1' {f : Int → List mV → Option cx_O} {g : Int → List mV → Option mO} (K : ∀ x r, cx_oR lo Ls h (f x r) (g x r)) : cx_oR lo Ls h (cx_i1 st f) (mi1 st g) := by
  unfold cx_i1 mi1
  split
  · exact K _ _
  · exact True.intro
theorem cx_i2' {f : Int → Int → List mV → Option cx_O} {g : Int → Int → List mV → Option mO} (K : ∀ x y r, cx_oR lo Ls h (f x y r) (g x y r)) : cx_oR lo Ls h (cx_i2 st f) (mi2 st g) := by
  unfold cx_i2 mi2
  split
  · exact K _ _ _
  · exact True.intro
theorem cx_p1' {f : Nat → List mV → Option cx_O} {g : Nat → List mV → Option mO} (K : ∀ x r, cx_oR lo Ls h (f x r) (g x r)) : cx_oR lo Ls h (cx_p1 st f) (mp1 st g) := by
  unfold cx_p1 mp1
  split
  · exact K _ _
  · exact True.intro
theorem cx_ix' {f : Nat → Int → List mV → Option cx_O} {g : Nat → Int → List mV → Option mO} (K : ∀ q x r, cx_oR lo Ls h (f q x r) (g q x r)) : cx_oR lo Ls h (cx_ix st f) (mix st g) := by
  unfold cx_ix mix
  split
  · exact K _ _ _
  · exact True.intro
theorem cx_ci' {f : Int → Option cx_O} {g : Int → Option mO} (K : ∀ x, cx_oR lo Ls h (f x) (g x)) : cx_oR lo Ls h (cx_ci i L f) (mci i L g) := by
  unfold cx_ci mci
  generalize L[i]? = w
  rcases w with _ | _ | z | z | z
  all_goals try exact True.intro
  exact K _
theorem cx_cp' {f : Nat → Option cx_O} {g : Nat → Option mO} (K : ∀ x, cx_oR lo Ls h (f x) (g x)) : cx_oR lo Ls h (cx_cp i L f) (mcp i L g) := by
  unfold cx_cp mcp
  generalize L[i]? = w
  rcases w with _ | _ | z | z | _ | z
  all_goals try exact True.intro
  exact K _
theorem cx_cd {b : Bool} {f : Option cx_O} {g : Option mO} (K : b = true → cx_oR lo Ls h f g) : cx_oR lo Ls h (cond b f none) g := by
  cases b
  · exact True.intro
  · exact K rfl
theorem cx_ite [Decidable P] {f : Option cx_O} {g : Option mO} (K : P → cx_oR lo Ls h f g) : cx_oR lo Ls h (if P then f else none) (if P then g else none) := by
  by_cases hp : P
  · rw [if_pos hp, if_pos hp]
    exact K hp
  · rw [if_neg hp]
    exact True.intro
theorem cx_to' (R : cx_R lo Ls h H) : cx_oR lo Ls h (cx_to i v pc L r H) (mst i v pc L r h) := by
  refine cx_cd fun h1 => cx_cd fun h2 => ?_
  have h1 : i < L.length := Nat.le_of_ble_eq_true h1
  unfold mst
  rw [if_pos ⟨h1, h2⟩]
  exact cx_nx' R _ _ _
theorem cx_b32' (hx : cx_b32 x = true) : m32 x = x := by
  cases x with
  | ofNat m =>
    have hx : m < 2147483648 := Nat.le_of_ble_eq_true hx
    exact m32_of ⟨by show _ ≤ (m : Int); omega, by show (m : Int) < _; omega⟩
  | negSucc m =>
    have hx : m < 2147483648 := Nat.le_of_ble_eq_true hx
    exact m32_of ⟨by omega, by omega⟩
theorem cx_if' {cd : Jvm.ClassFile.Cond} {t f : Option cx_O} {t' f' : Option mO} (h1 : cx_oR lo Ls h t t') (h2 : cx_oR lo Ls h f f') : cx_oR lo Ls h (cx_if cd x y t f) (mif cd (m32 x) (m32 y) t' f') := by
  refine cx_cd fun g1 => cx_cd fun g2 => ?_
  rw [cx_b32' g1, cx_b32' g2]
  unfold mif
  cases e : mcnd cd x y
  · rw [if_neg (by decide)]
    exact h2
  · rw [if_pos rfl]
    exact h1
theorem cx_rd' (R : cx_R lo Ls h H) {f : Int → Option cx_O} {g : Int → Option mO} (K : ∀ x, cx_oR lo Ls h (f x) (g x)) : cx_oR lo Ls h (cx_rd lo H kd a x f) (mrd h kd a x g) := by
  cases x with
  | negSucc m => exact True.intro
  | ofNat j =>
    refine cx_cd fun h1 => cx_cd fun h2 => ?_
    have h2 : j < cx_S a / 32 := Nat.le_of_ble_eq_true h2
    have h3 := (R.ok h1).2.1
    have h4 : m32 (Int.ofNat j) = (j : Int) := m32_nat (by omega)
    unfold mrd
    rw [R.siz h1]
    dsimp only
    rw [h4, if_pos ⟨by omega, by omega⟩, Int.toNat_natCast, R.get h1 h2]
    exact K _
theorem cx_wr' (R : cx_R lo Ls h H) {f : cx_H → Option cx_O} {g : mH → Option mO} (K : ∀ H1 h1, cx_R lo Ls h1 H1 → cx_F lo h h1 0 0 → cx_oR lo Ls h (f H1) (g h1)) : cx_oR lo Ls h (cx_wr lo H kd a x y f) (mwr h kd a x y g) := by
  cases x with
  | negSucc m => exact True.intro
  | ofNat j =>
    refine cx_cd fun h1 => cx_cd fun h2 => ?_
    have h2 : j < cx_S a / 32 := Nat.le_of_ble_eq_true h2
    have h3 := (R.ok h1).2.1
    have h4 : m32 (Int.ofNat j) = (j : Int) := m32_nat (by omega)
    unfold mwr
    rw [R.siz h1]
    dsimp only
    rw [h4, if_pos ⟨(R.ok h1).2.2.2.2, by omega, by omega⟩, Int.toNat_natCast]
    exact K _ _ (R.set h1 h2 y).1 (R.set h1 h2 y).2
theorem cx_nw' (R : cx_R lo Ls h H) {d : Nat → Int} {f : Nat → cx_H → Option cx_O} {pc : Nat → Nat} {L : Nat → mLs} {st : Nat → List mV} (hu : ∀ i, i < n → cx_lf (cx_gt 10 u i) = d i) (hd : ∀ i, d i = 0 ∨ d i = -1) (hf : ∀ q H', f q H' = cx_nx (pc q) (L q) (st q) H') : cx_oR lo Ls h (cx_nw H kd n u f) (mpay n (mnew h kd n d fun q h' => mnx (pc q) (L q) (st q) h')) := by
  refine cx_cd fun h1 => cx_cd fun h2 => cx_cd fun h3 => ?_
  have h1 : H.1 < 483 := Nat.le_of_ble_eq_true h1
  have h2 : kd < 32 := Nat.le_of_ble_eq_true h2
  have h3 := Nat.eq_of_beq_eq_true h3
  obtain ⟨e1, e2, e3⟩ := R.new h1 h3 h2 hu hd
  unfold mnew
  rw [if_pos R.2.2.2.2.1, hf, ← e1]
  rw [← e1] at e2
  refine cx_oI e2 e3 ?_
  have e := Nat.zero_add n
  show some (Sum.inl (pc h.1.length, L h.1.length, st h.1.length, _, 0 + 1, 0 + n)) = _
  rw [e]
theorem cx_call' : cx_oR lo Ls h (cx_call k n st) (mcall k n st) := by
  unfold cx_call mcall
  split
  · exact rfl
  · exact True.intro
theorem cx_pf' {y : Option mO} {f : cx_H → Option cx_O} {b q : Nat} (K : cx_ok lo H.1 q kd = true → b < cx_S q / 32 → cx_oR lo Ls h (f (H.1, cx_st 10 H.2 q (cx_st 10 (cx_gt 10 H.2 q) b (.num x)))) y) : cx_oR lo Ls h (cx_wr lo H kd q (Int.ofNat b) x f) y := cx_cd fun h1 => cx_cd fun h2 => K h1 (Nat.le_of_ble_eq_true h2)
theorem cx_R.obj (R : cx_R lo Ls h H) {c q : Nat} (hk : cx_ok lo H.1 q (16 + c) = true) : mobj h c (some (mP (some q))) = true := by
  show (decide (2 ≤ q) && (match msz h q (16 + c) with | some _ => true | none => false)) = true
  rw [R.siz hk, decide_eq_true (R.ok hk).2.2.2.2]
  rfl
theorem cx_beq {b c : Nat} (h : ¬ b = c) : Nat.beq b c = false := by
  cases e : Nat.beq b c
  · rfl
  · exact absurd (Nat.eq_of_beq_eq_true e) h
theorem cx_mnf (a : Nat) : mnf a < 1024 := by
  by_cases h : a < 11
  · have : ∀ a, a < 11 → mnf a < 1024 := by decide
    exact this a h
  · have e : mnf a = 0 := by
      unfold mnf
      rw [List.getD_eq_getElem?_getD, List.getElem?_eq_none (by show 11 ≤ a; omega)]
      try rfl
    omega
theorem cx_mfd (a j : Nat) : mfd a j = 0 ∨ mfd a j = -1 := by
  unfold mfd
  split
  · exact Or.inr rfl
  · exact Or.inl rfl
end SIM
set_option maxHeartbeats 2000000 in
theorem cx_sim {lo Ls : Nat} {h : mH} {H : cx_H} (R : cx_R lo Ls h H) (e : mE) (pc : Nat) (L : mLs) (st : List mV) : cx_oR lo Ls h (cx_stp lo e pc L st H) (mstep mfd mnf e pc L st h) := by
  obtain ⟨i, n, a, b, c⟩ := e
  cases i
  case aload_n k => exact cx_cp' fun q => cx_nx' R _ _ _
  case iload_n k => exact cx_ci' fun q => cx_nx' R _ _ _
  case iload k => exact cx_ci' fun q => cx_nx' R _ _ _
  case iconst x => exact cx_nx' R _ _ _
  case bipush x => exact cx_ite fun _ => cx_nx' R _ _ _
  case sipush x => exact cx_ite fun _ => cx_nx' R _ _ _
  case istore_n k => exact cx_i1' fun x r => cx_to' R
  case istore k => exact cx_i1' fun x r => cx_to' R
  case iinc k x => exact cx_ci' fun y => cx_to' R
  case iadd => exact cx_i2' fun x y r => cx_nx' R _ _ _
  case isub => exact cx_i2' fun x y r => cx_nx' R _ _ _
  case imul => exact cx_i2' fun x y r => cx_nx' R _ _ _
  case dup =>
    rcases st with _ | ⟨v, r⟩
    · exact True.intro
    · refine cx_cd fun h1 => ?_
      show cx_oR lo Ls h (cx_nx (pc + n) L (v :: v :: r) H) (if mis1 v = true then mnx (pc + n) L (v :: v :: r) h else none)
      rw [if_pos h1]
      exact cx_nx' R _ _ _
  case dup2 =>
    rcases st with _ | ⟨v, _ | ⟨w, r⟩⟩
    · exact True.intro
    · exact True.intro
    · refine cx_cd fun h1 => cx_cd fun h2 => ?_
      show cx_oR lo Ls h (cx_nx (pc + n) L (v :: w :: v :: w :: r) H) (if mis1 v = true ∧ mis1 w = true then mnx (pc + n) L (v :: w :: v :: w :: r) h else none)
      rw [if_pos ⟨h1, h2⟩]
      exact cx_nx' R _ _ _
  case goto x => exact cx_nx' R _ _ _
  case ifCond k x =>
    refine cx_i1' fun x r => ?_
    have e0 : m32 0 = 0 := m32_of ⟨by decide, by decide⟩
    have K := cx_if' (cd := k) (x := x) (y := 0) (cx_nx' R a L r) (cx_nx' R (pc + n) L r)
    rw [e0] at K
    exact K
  case if_icmp k x => exact cx_i2' fun x y r => cx_if' (cx_nx' R _ _ _) (cx_nx' R _ _ _)
  case getfield j =>
    refine cx_p1' fun q r => cx_cd fun h1 => cx_cd fun h2 => ?_
    have h2 : b < cx_S q / 32 := Nat.le_of_ble_eq_true h2
    show cx_oR lo Ls h _ (match msz h q (16 + a) with | some N => if 2 ≤ q ∧ b < N then (if c = 1 then (if 0 ≤ h.2.1 q b then mnx (pc + n) L (mP (some (h.2.1 q b).toNat) :: r) h else none) else mnx (pc + n) L (mI (h.2.1 q b) :: r) h) else none | none => none)
    rw [R.siz h1]
    dsimp only
    rw [if_pos ⟨(R.ok h1).2.2.2.2, h2⟩, R.get h1 h2]
    generalize cx_lf (cx_gt 10 (cx_gt 10 H.2 q) b) = w
    by_cases hc : c = 1
    · rw [hc, if_pos rfl]
      cases w with
      | negSucc m => exact True.intro
      | ofNat v =>
        rw [if_pos (show (0 : Int) ≤ Int.ofNat v from by show (0 : Int) ≤ (v : Int); omega)]
        exact cx_nx' R _ _ _
    · rw [if_neg hc, cx_beq hc]
      exact cx_nx' R _ _ _
  case putfield j =>
    rcases st with _ | ⟨v1 | v1 | _ | v1, _ | ⟨v2 | v2 | _ | q, r⟩⟩
    all_goals try exact True.intro
    · refine cx_cd fun h0 => cx_pf' fun h1 h2 => ?_
      have h0 := Nat.eq_of_beq_eq_true h0
      show cx_oR lo Ls h _ (match msz h q (16 + a) with | some N => if 2 ≤ q ∧ b < N ∧ (c = 0 ∨ (c = 2 ∧ (v1 = 0 ∨ v1 = 1))) then mnx (pc + n) L r (h.1, mup h.2.1 q b v1, h.2.2) else none | none => none)
      rw [R.siz h1]
      dsimp only
      rw [if_pos ⟨(R.ok h1).2.2.2.2, h2, Or.inl h0⟩]
      exact cx_nx1 (R.set h1 h2 _).1 (R.set h1 h2 _).2 _ _ _
    · refine cx_cd fun h0 => cx_pf' fun h1 h2 => ?_
      have h0 := Nat.eq_of_beq_eq_true h0
      show cx_oR lo Ls h _ (match msz h q (16 + a) with | some N => if 2 ≤ q ∧ b < N ∧ c = 1 then mnx (pc + n) L r (h.1, mup h.2.1 q b v1, h.2.2) else none | none => none)
      rw [R.siz h1]
      dsimp only
      rw [if_pos ⟨(R.ok h1).2.2.2.2, h2, h0⟩]
      exact cx_nx1 (R.set h1 h2 _).1 (R.set h1 h2 _).2 _ _ _
  case arraylength =>
    refine cx_p1' fun q r => cx_cd fun h1 => ?_
    show cx_oR lo Ls h _ (match h.1[q]? with | some (k, N) => if k ≤ 6 ∧ N < 2147483648 then mnx (pc + n) L (mI N :: r) h else none | none => none)
    rw [(R.ok h1).1]
    dsimp only
    rw [if_pos ⟨by omega, by have := (R.ok h1).2.1; omega⟩]
    exact cx_nx' R _ _ _
  case iaload => exact cx_ix' fun q x r => cx_rd' R fun y => cx_nx' R _ _ _
  case iastore =>
    rcases st with _ | ⟨y | y | _ | y, _ | ⟨x | x | _ | x, _ | ⟨q | q | _ | q, r⟩⟩⟩
    all_goals try exact True.intro
    exact cx_wr' R fun H1 h1 R1 F1 => cx_nx1 R1 F1 _ _ _
  case aastore =>
    rcases st with _ | ⟨y | y | _ | y, _ | ⟨x | x | _ | x, _ | ⟨q | q | _ | q, r⟩⟩⟩
    all_goals try exact True.intro
    refine cx_cd fun h1 => ?_
    show cx_oR lo Ls h _ (if mobj h b (some (mP (some y))) = true then mwr h a q x y (fun h' => mnx (pc + n) L r h') else none)
    rw [if_pos (R.obj h1)]
    exact cx_wr' R fun H1 h1 R1 F1 => cx_nx1 R1 F1 _ _ _
  case newarray t =>
    refine cx_i1' fun x r => ?_
    cases x with
    | negSucc m => exact True.intro
    | ofNat m =>
      refine cx_cd fun h1 => cx_cd fun h2 => ?_
      have h1 : m < 1024 := Nat.le_of_ble_eq_true h1
      have h4 : m32 (Int.ofNat m) = (m : Int) := m32_nat (by omega)
      show cx_oR lo Ls h _ (if 0 ≤ m32 (Int.ofNat m) ∧ m32 (Int.ofNat m) < 100000 ∧ mkArr t ≤ 2 then mpay (m32 (Int.ofNat m)).toNat (mnew h (mkArr t) (m32 (Int.ofNat m)).toNat (fun _ => 0) fun q h' => mnx (pc + n) L (mP (some q) :: r) h') else none)
      rw [h4, if_pos ⟨by omega, by omega, Nat.le_of_ble_eq_true h2⟩, Int.toNat_natCast]
      exact cx_nw' R (fun i _ => rfl) (fun _ => Or.inl rfl) (fun _ _ => rfl)
  case anewarray t =>
    refine cx_i1' fun x r => ?_
    cases x with
    | negSucc m => exact True.intro
    | ofNat m =>
      refine cx_cd fun h1 => ?_
      have h1 : m < 1024 := Nat.le_of_ble_eq_true h1
      have h4 : m32 (Int.ofNat m) = (m : Int) := m32_nat (by omega)
      show cx_oR lo Ls h _ (if 0 ≤ m32 (Int.ofNat m) ∧ m32 (Int.ofNat m) < 100000 then mpay (m32 (Int.ofNat m)).toNat (mnew h a (m32 (Int.ofNat m)).toNat (fun _ => -1) fun q h' => mnx (pc + n) L (mP (some q) :: r) h') else none)
      rw [h4, if_pos ⟨by omega, by omega⟩, Int.toNat_natCast]
      exact cx_nw' R (fun i _ => rfl) (fun _ => Or.inr rfl) (fun _ _ => rfl)
  case new t =>
    show cx_oR lo Ls h (cond (Nat.beq b 1) none (cx_nw H (16 + a) (mnf a) (cx_bl 10 0 1 (mfd a)) fun q H' => cx_nx (pc + n) L (mP (some q) :: st) H')) (if b = 1 then (if st = [] then some (.inr (.inr (.inr a))) else none) else mpay (mnf a) (mnew h (16 + a) (mnf a) (mfd a) fun q h' => mnx (pc + n) L (mP (some q) :: st) h'))
    by_cases hb : b = 1
    · rw [hb]
      exact True.intro
    · rw [if_neg hb, cx_beq hb]
      show cx_oR lo Ls h (cx_nw H (16 + a) (mnf a) (cx_bl 10 0 1 (mfd a)) fun q H' => cx_nx (pc + n) L (mP (some q) :: st) H') _
      refine cx_nw' R (fun i hi => ?_) (cx_mfd a) (fun _ _ => rfl)
      have := cx_mnf a
      rw [cx_gb _ 10 0 1 i (by omega), show 0 + 1 * i = i by omega]
      try rfl
  case invokestatic t => exact cx_call'
  case invokevirtual t =>
    show cx_oR lo Ls h (match st[b]? with | some (.inr (.inr (some q))) => cond (cx_ok lo H.1 q (16 + c)) (cx_call a (b + 1) st) none | _ => none) (if mobj h c (st[b]?) = true then mcall a (b + 1) st else none)
    generalize st[b]? = w
    rcases w with _ | x | x | _ | q
    all_goals try exact True.intro
    refine cx_cd fun h1 => ?_
    rw [if_pos (R.obj h1)]
    exact cx_call'
  case invokespecial t =>
    show cx_oR lo Ls h (cond (Nat.beq c 99) (cx_p1 st fun _ r => if (r.map mcat).sum ≤ 8 then cx_nx (pc + n) L r H else none) (match st[b]? with | some (.inr (.inr (some _))) => cx_call a (b + 1) st | _ => none)) (if c = 99 then mp1 st fun _ r => (if (r.map mcat).sum ≤ 8 then mnx (pc + n) L r h else none) else (match st[b]? with | some (.inr (.inr (some _))) => mcall a (b + 1) st | _ => none))
    by_cases hc : c = 99
    · rw [hc, if_pos rfl]
      exact cx_p1' fun _ r => cx_ite fun _ => cx_nx' R _ _ _
    · rw [if_neg hc, cx_beq hc]
      generalize st[b]? = w
      rcases w with _ | x | x | _ | q
      all_goals try exact True.intro
      exact cx_call'
  case ireturn =>
    rcases st with _ | ⟨x | x | _ | x, _ | ⟨y, r⟩⟩
    all_goals try exact True.intro
    refine cx_cd fun h1 => ?_
    have h1 := Nat.eq_of_beq_eq_true h1
    show cx_oR lo Ls h _ (if ([] : List mV) = [] ∧ (c = 0 ∨ x = 0 ∨ x = 1) then some (.inr (.inr (.inl (some (mI x))))) else none)
    rw [if_pos ⟨rfl, Or.inl h1⟩]
    exact rfl
  case return_ =>
    rcases st with _ | ⟨x, r⟩
    · exact rfl
    · exact True.intro
  all_goals exact True.intro
noncomputable def cx_n {α : Type} (n : Nat) (f : Nat → α) : α := match n with
  | 0 => f 0
  | m + 1 => f (Nat.succ m)
theorem cx_n' {α : Type} (n : Nat) (f : Nat → α) : cx_n n f = f n := by cases n <;> rfl
/-- hk: what a call of the method 105 leaves, where that is reckoned out apart -/
abbrev cx_K : Type := List mV → cx_H → Option (Option mV × cx_H)
noncomputable def cx_run (hk : cx_K) (lo f : Nat) : Nat → Nat → mLs → List mV → cx_H → Option (Option mV × cx_H) := Nat.rec (motive := fun _ => Nat → Nat → mLs → List mV → cx_H → Option (Option mV × cx_H)) (fun _ _ _ _ _ => none) (fun _ ih k pc L st H => match mPg.1 k pc with
  | none => none
  | some e => match cx_stp lo e pc L st H with
    | none => none
    | some (.inl (pc', L', st', H')) => cx_n pc' fun p => ih k p L' st' H'
    | some (.inr (.inl (k', as, rest))) => (match cx_n k' (fun q => cond (Nat.beq q 105) (hk as H) (ih q 0 (mentry as (mN q)) [] H)) with
      | none => none
      | some (v, H') => cx_n (pc + 3) fun p => ih k p L (v.toList ++ rest) H')
    | some (.inr (.inr v)) => some (v, H)) f
theorem cx_run_s (hk : cx_K) (lo f k pc : Nat) (L : mLs) (st : List mV) (H : cx_H) : cx_run hk lo (f + 1) k pc L st H = (match mPg.1 k pc with
  | none => none
  | some e => match cx_stp lo e pc L st H with
    | none => none
    | some (.inl (pc', L', st', H')) => cx_n pc' fun p => cx_run hk lo f k p L' st' H'
    | some (.inr (.inl (k', as, rest))) => (match cx_n k' (fun q => cond (Nat.beq q 105) (hk as H) (cx_run hk lo f q 0 (mentry as (mN q)) [] H)) with
      | none => none
      | some (v, H') => cx_n (pc + 3) fun p => cx_run hk lo f k p L (v.toList ++ rest) H')
    | some (.inr (.inr v)) => some (v, H)) := rfl
/-- from h the method k comes to an end: v, a heap that H' tells -/
def cx_E1 (lo Ls k pc : Nat) (L : mLs) (st : List mV) (h : mH) (v : Option mV) (H' : cx_H) : Prop := ∃ g h' c s, mrun mPg g k pc L st h = some (.inl v, h', c, s) ∧ cx_R lo Ls h' H' ∧ cx_F lo h h' c s
/-- what is reckoned over the tree is a run over the heap -/
theorem cx_run_sim {lo Ls : Nat} {hk : cx_K} (hhk : ∀ as H v H', hk as H = some (v, H') → ∀ h, cx_R lo Ls h H → cx_E1 lo Ls 105 0 (mentry as (mN 105)) [] h v H') : ∀ (f k pc : Nat) (L : mLs) (st : List mV) (H : cx_H) (v : Option mV) (H' : cx_H), cx_run hk lo f k pc L st H = some (v, H') → ∀ h, cx_R lo Ls h H → cx_E1 lo Ls k pc L st h v H' := by
  intro f
  induction f with
  | zero => intro k pc L st H v H' hr; cases hr
  | succ f ih =>
    intro k pc L st H v H' hr h R
    rw [cx_run_s] at hr
    cases hp : mPg.1 k pc with
    | none => rw [hp] at hr; cases hr
    | some e =>
      rw [hp] at hr
      dsimp only at hr
      have hsim := cx_sim R e pc L st
      have hst : mstep mPg.2.2.2.1 mPg.2.2.2.2 e pc L st h = mstep mfd mnf e pc L st h := rfl
      cases hs : cx_stp lo e pc L st H with
      | none => rw [hs] at hr; cases hr
      | some o =>
        rw [hs] at hr hsim
        rcases o with ⟨pc', L', st', H1⟩ | ⟨k', as, rest⟩ | v1
        · have hsim : ∃ h' c s, mstep mfd mnf e pc L st h = some (.inl (pc', L', st', h', c, s)) ∧ cx_R lo Ls h' H1 ∧ cx_F lo h h' c s := hsim
          obtain ⟨h1, c1, s1, g1, g2, g3⟩ := hsim
          have hr : cx_n pc' (fun p => cx_run hk lo f k p L' st' H1) = some (v, H') := hr
          rw [cx_n'] at hr
          obtain ⟨g, h', c, s, q1, q2, q3⟩ := ih _ _ _ _ _ _ _ hr h1 g2
          refine ⟨g + 1, h', c1 + c, s1 + s, ?_, q2, g3.trans q3⟩
          unfold mrun
          rw [hp]
          dsimp only
          rw [hst, g1]
          dsimp only
          rw [q1]
          rfl
        · have hsim : mstep mfd mnf e pc L st h = some (.inr (.inl (k', as, rest))) := hsim
          dsimp only at hr
          rw [cx_n'] at hr
          have hc : ∃ v1 H1, cx_E1 lo Ls k' 0 (mentry as (mN k')) [] h v1 H1 ∧ cx_run hk lo f k (pc + 3) L (v1.toList ++ rest) H1 = some (v, H') := by
            cases hb : Nat.beq k' 105 with
            | true =>
              have e5 := Nat.eq_of_beq_eq_true hb
              rw [hb] at hr
              cases hc : hk as H with
              | none => rw [hc] at hr; cases hr
              | some w =>
                obtain ⟨v1, H1⟩ := w
                rw [hc] at hr
                have hr : cx_n (pc + 3) (fun p => cx_run hk lo f k p L (v1.toList ++ rest) H1) = some (v, H') := hr
                rw [cx_n'] at hr
                rw [e5]
                exact ⟨v1, H1, hhk _ _ _ _ hc h R, hr⟩
            | false =>
              rw [hb] at hr
              cases hc : cx_run hk lo f k' 0 (mentry as (mN k')) [] H with
              | none => rw [hc] at hr; cases hr
              | some w =>
                obtain ⟨v1, H1⟩ := w
                rw [hc] at hr
                have hr : cx_n (pc + 3) (fun p => cx_run hk lo f k p L (v1.toList ++ rest) H1) = some (v, H') := hr
                rw [cx_n'] at hr
                exact ⟨v1, H1, ih _ _ _ _ _ _ _ hc h R, hr⟩
          obtain ⟨v1, H1, ⟨ga, h1, c1, s1, g1, g2, g3⟩, hr2⟩ := hc
          obtain ⟨gb, h', c, s, q1, q2, q3⟩ := ih _ _ _ _ _ _ _ hr2 h1 g2
          refine ⟨max ga gb + 1, h', c1 + c, s1 + s, ?_, q2, g3.trans q3⟩
          unfold mrun
          rw [hp]
          dsimp only
          rw [hst, hsim]
          dsimp only
          rw [show mrun mPg (max ga gb) k' 0 (mentry as (mPg.2.2.1 k')) [] h = _ from mrun_mono ga _ _ _ _ _ _ g1 (max ga gb) (Nat.le_max_left _ _)]
          dsimp only
          rw [mrun_mono gb _ _ _ _ _ _ q1 (max ga gb) (Nat.le_max_right _ _)]
          rfl
        · have hsim : mstep mfd mnf e pc L st h = some (.inr (.inr (.inl v1))) := hsim
          have hr : some (v1, H) = some (v, H') := hr
          cases hr
          refine ⟨1, h, 0, 0, ?_, R, cx_F.rfl' h⟩
          unfold mrun
          rw [hp]
          dsimp only
          rw [hst, hsim]
