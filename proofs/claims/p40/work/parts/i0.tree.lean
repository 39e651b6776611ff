/-! The first tailoring. -/
/-- a tailoring at the start -/
def D0 : TD := ([29, 30, 31, 32, 33, 34, 35, 36, 37, 38, 39, 40, 1, 13, 2, 14, 3, 15, 4, 16, 5, 17, 6, 18, 7, 19, 8, 20, 9, 21, 10, 22, 11, 23, 12, 24], [1, 1, 1, 1, 1, 1, 1, 1, 1, 1, 1, 1, 1, 3, 1, 3, 1, 3, 1, 3, 1, 3, 1, 3, 1, 3, 1, 3, 1, 3, 1, 3, 1, 3, 1, 3], [], [])
theorem okTD_0 : okTD D0 := by
  refine ⟨rfl, by decide, by decide, by decide, List.nodup_nil, ⟨rfl, fun s hs => absurd hs List.not_mem_nil⟩, by decide, rfl, ?_, fun c hc => absurd hc List.not_mem_nil, fun s hs => absurd hs List.not_mem_nil, ?_, ?_, fun i c s hc => by cases i <;> cases hc⟩
  · intro c hc
    have h : ∀ c ∈ D0.1, (0 < c ∧ c < 1010101) ∧ (c ≤ 24 ∨ 29 ≤ c ∧ c ≤ 40) := by decide
    obtain ⟨h1, h2⟩ := h c hc
    refine ⟨h1, ?_⟩
    rcases h2 with h2 | h2
    · left
      have hs1 : sgIn c = 1 := by
        unfold sgIn
        rw [if_neg (by omega), if_pos (by omega)]
      refine ⟨by omega, ?_, fun g => by omega, fun g => by omega⟩
      have hs2 : sgAt c 0 = c - 1 := by
        unfold sgAt
        rw [hs1, if_neg (by omega), if_neg (by omega)]
        omega
      rw [hs2]
      omega
    · exact Or.inr h2
  · intro s hs
    left
    have h : ∀ k : Nat, k < 24 → ((k : Int) + 1) ∈ D0.1 := by decide
    have := h s.toNat (by omega)
    rwa [show ((s.toNat : Nat) : Int) = s by omega] at this
  · intro c c1 c2
    have h : ∀ k : Nat, k < 12 → ((k : Int) + 29) ∈ D0.1 := by decide
    have := h (c - 29).toNat (by omega)
    rwa [show (((c - 29).toNat : Nat) : Int) + 29 = c by omega] at this
/-! A heap of numbers as a tree, for runs that are reckoned out: the constructors. -/
abbrev cx_T : Type := Int.Internal.Linear.Expr
def cx_lf : cx_T → Int
  | .num v => v
  | _ => 0
noncomputable def cx_gt (d : Nat) : cx_T → Nat → cx_T := Nat.rec (motive := fun _ => cx_T → Nat → cx_T) (fun t _ => t) (fun _ ih t k => match t with
  | .add l r => cond (Nat.beq (k % 2) 0) (ih l (k / 2)) (ih r (k / 2))
  | t => t) d
noncomputable def cx_st (d : Nat) : cx_T → Nat → cx_T → cx_T := Nat.rec (motive := fun _ => cx_T → Nat → cx_T → cx_T) (fun _ _ u => u) (fun _ ih t k u => match t with
  | .add l r => cond (Nat.beq (k % 2) 0) (.add (ih l (k / 2) u) r) (.add l (ih r (k / 2) u))
  | t => cond (Nat.beq (k % 2) 0) (.add (ih t (k / 2) u) t) (.add t (ih t (k / 2) u))) d
noncomputable def cx_bl (d : Nat) : Nat → Nat → (Nat → Int) → cx_T := Nat.rec (motive := fun _ => Nat → Nat → (Nat → Int) → cx_T) (fun k _ f => .num (f k)) (fun _ ih k s f => .add (ih k (2 * s) f) (ih (k + s) (2 * s) f)) d
theorem cx_cond {α : Type} (k : Nat) (a b : α) : cond (Nat.beq (k % 2) 0) a b = if k % 2 = 0 then a else b := by
  rcases Nat.mod_two_eq_zero_or_one k with h | h
  · rw [h]
    rfl
  · rw [h]
    rfl
theorem cx_gt_add (d : Nat) (l r : cx_T) (k : Nat) : cx_gt (d + 1) (.add l r) k = if k % 2 = 0 then cx_gt d l (k / 2) else cx_gt d r (k / 2) := cx_cond k _ _
theorem cx_st_add (d : Nat) (l r : cx_T) (k : Nat) (u : cx_T) : cx_st (d + 1) (.add l r) k u = if k % 2 = 0 then .add (cx_st d l (k / 2) u) r else .add l (cx_st d r (k / 2) u) := cx_cond k _ _
theorem cx_gt_leaf {t : cx_T} (ht : ∀ l r, t ≠ .add l r) : ∀ (d k : Nat), cx_gt d t k = t := by
  intro d k
  cases d with
  | zero => rfl
  | succ d =>
    cases t with
    | add l r => exact absurd rfl (ht l r)
    | _ => rfl
theorem cx_ch (d : Nat) (t : cx_T) : ∃ l r : cx_T, (∀ k, cx_gt (d + 1) t k = if k % 2 = 0 then cx_gt d l (k / 2) else cx_gt d r (k / 2)) ∧ ∀ k u, cx_st (d + 1) t k u = if k % 2 = 0 then .add (cx_st d l (k / 2) u) r else .add l (cx_st d r (k / 2) u) := by
  have hleaf : (∀ l r, t ≠ .add l r) → (∀ k u, cx_st (d + 1) t k u = if k % 2 = 0 then .add (cx_st d t (k / 2) u) t else .add t (cx_st d t (k / 2) u)) → ∃ l r : cx_T, (∀ k, cx_gt (d + 1) t k = if k % 2 = 0 then cx_gt d l (k / 2) else cx_gt d r (k / 2)) ∧ ∀ k u, cx_st (d + 1) t k u = if k % 2 = 0 then .add (cx_st d l (k / 2) u) r else .add l (cx_st d r (k / 2) u) := by
    intro h1 h2
    refine ⟨t, t, fun k => ?_, h2⟩
    rw [cx_gt_leaf h1, cx_gt_leaf h1]
    split <;> rfl
  cases t with
  | add l r => exact ⟨l, r, cx_gt_add d l r, cx_st_add d l r⟩
  | num v => exact hleaf (fun l r h => by cases h) (fun k u => cx_cond k _ _)
  | var v => exact hleaf (fun l r h => by cases h) (fun k u => cx_cond k _ _)
  | sub l r => exact hleaf (fun l r h => by cases h) (fun k u => cx_cond k _ _)
  | neg l => exact hleaf (fun l r h => by cases h) (fun k u => cx_cond k _ _)
  | mulL l r => exact hleaf (fun l r h => by cases h) (fun k u => cx_cond k _ _)
  | mulR l r => exact hleaf (fun l r h => by cases h) (fun k u => cx_cond k _ _)
theorem cx_gs : ∀ (d : Nat) (t : cx_T) (k k' : Nat) (u : cx_T), k < 2 ^ d → k' < 2 ^ d → cx_gt d (cx_st d t k u) k' = if k' = k then u else cx_gt d t k' := by
  intro d
  induction d with
  | zero =>
    intro t k k' u h1 h2
    have e1 : k = 0 := by simpa using h1
    have e2 : k' = 0 := by simpa using h2
    rw [if_pos (by omega)]
    rfl
  | succ d ih =>
    intro t k k' u h1 h2
    have hp : 2 ^ (d + 1) = 2 * 2 ^ d := by rw [Nat.pow_succ, Nat.mul_comm]
    obtain ⟨l, r, g1, g2⟩ := cx_ch d t
    rw [g1 k', g2 k u]
    by_cases a1 : k % 2 = 0
    · rw [if_pos a1, cx_gt_add]
      by_cases a2 : k' % 2 = 0
      · rw [if_pos a2, if_pos a2, ih l (k / 2) (k' / 2) u (by omega) (by omega)]
        by_cases a3 : k' = k
        · rw [if_pos a3, if_pos (by omega)]
        · rw [if_neg a3, if_neg (by omega)]
      · rw [if_neg a2, if_neg a2, if_neg (by omega)]
    · rw [if_neg a1, cx_gt_add]
      by_cases a2 : k' % 2 = 0
      · rw [if_pos a2, if_pos a2, if_neg (by omega)]
      · rw [if_neg a2, if_neg a2, ih r (k / 2) (k' / 2) u (by omega) (by omega)]
        by_cases a3 : k' = k
        · rw [if_pos a3, if_pos (by omega)]
        · rw [if_neg a3, if_neg (by omega)]
theorem cx_gb (f : Nat → Int) : ∀ (d k s j : Nat), j < 2 ^ d → cx_gt d (cx_bl d k s f) j = .num (f (k + s * j)) := by
  intro d
  induction d with
  | zero =>
    intro k s j h
    have e : j = 0 := by simpa using h
    rw [e]
    rfl
  | succ d ih =>
    intro k s j h
    have hp : 2 ^ (d + 1) = 2 * 2 ^ d := by rw [Nat.pow_succ, Nat.mul_comm]
    have hb : cx_bl (d + 1) k s f = .add (cx_bl d k (2 * s) f) (cx_bl d (k + s) (2 * s) f) := rfl
    rw [hb, cx_gt_add]
    by_cases a : j % 2 = 0
    · obtain ⟨m, rfl⟩ : ∃ m, j = 2 * m := ⟨j / 2, by omega⟩
      rw [if_pos a, show 2 * m / 2 = m by omega, ih k (2 * s) m (by omega)]
      rw [Nat.mul_comm 2 s, Nat.mul_assoc]
    · obtain ⟨m, rfl⟩ : ∃ m, j = 2 * m + 1 := ⟨j / 2, by omega⟩
      rw [if_neg a, show (2 * m + 1) / 2 = m by omega, ih (k + s) (2 * s) m (by omega)]
      rw [Nat.mul_comm 2 s, Nat.mul_assoc, Nat.mul_add, Nat.mul_one, Nat.add_assoc, Nat.add_comm s]
/-- kind and size of a cell as one number -/
def cx_sf (a : Nat) : Int := match mShp[a]? with
  | some (k, s) => ((k + 32 * s : Nat) : Int)
  | none => 0
noncomputable def cx_S (a : Nat) : Nat := (cx_lf (cx_gt 10 (cx_bl 10 0 1 cx_sf) a)).toNat
theorem cx_len : mShp.length = 483 := by decide +kernel
theorem cx_shb : ∀ p ∈ mShp, p.1 < 32 ∧ p.2 < 1024 := by decide +kernel
theorem cx_S_of {a k s : Nat} (h : mShp[a]? = some (k, s)) : cx_S a = k + 32 * s := by
  have ha : a < 483 := by
    have := (List.getElem?_eq_some_iff.mp h).1
    rw [cx_len] at this
    exact this
  unfold cx_S
  rw [cx_gb cx_sf 10 0 1 a (by omega)]
  have e : cx_sf (0 + 1 * a) = ((k + 32 * s : Nat) : Int) := by
    rw [show 0 + 1 * a = a by omega]
    unfold cx_sf
    rw [h]
  rw [e]
  show Int.toNat ((k + 32 * s : Nat) : Int) = _
  omega
/-- kinds and sizes of the first n cells -/
def cx_sh (Ls n : Nat) : List (Nat × Nat) := ((0, Ls) :: mShp.tail).take n
theorem cx_shl {Ls n : Nat} (h : n ≤ 483) : (cx_sh Ls n).length = n := by
  have : mShp.tail.length = 482 := by rw [List.length_tail, cx_len]
  unfold cx_sh
  rw [List.length_take, List.length_cons, this]
  omega
theorem cx_shg {Ls n a : Nat} (h : a < n) (h1 : 1 ≤ a) : (cx_sh Ls n)[a]? = mShp[a]? := by
  obtain ⟨b, rfl⟩ : ∃ b, a = b + 1 := ⟨a - 1, by omega⟩
  unfold cx_sh
  rw [List.getElem?_take_of_lt h, List.getElem?_cons_succ, List.getElem?_tail]
theorem cx_shs {Ls n : Nat} {p : Nat × Nat} (h1 : 1 ≤ n) (h : mShp[n]? = some p) : cx_sh Ls (n + 1) = cx_sh Ls n ++ [p] := by
  obtain ⟨b, rfl⟩ : ∃ b, n = b + 1 := ⟨n - 1, by omega⟩
  unfold cx_sh
  rw [List.take_add_one, List.getElem?_cons_succ, List.getElem?_tail, h]
  rfl
theorem cx_get {a : Nat} (h : a < 483) : mShp[a]? = some (cx_S a % 32, cx_S a / 32) ∧ cx_S a / 32 < 1024 := by
  have hl : a < mShp.length := by rw [cx_len]; exact h
  have e : mShp[a]? = some mShp[a] := List.getElem?_eq_getElem hl
  have hb := cx_shb mShp[a] (List.getElem_mem hl)
  have e2 := cx_S_of (a := a) (k := mShp[a].1) (s := mShp[a].2) e
  have h1 : cx_S a % 32 = mShp[a].1 := by omega
  have h2 : cx_S a / 32 = mShp[a].2 := by omega
  rw [h1, h2]
  exact ⟨e, hb.2⟩
/-- the heap h, from the cell lo on, is what the tree H tells -/
def cx_R (lo Ls : Nat) (h : mH) (H : Nat × cx_T) : Prop := 2 ≤ lo ∧ lo ≤ H.1 ∧ H.1 ≤ 483 ∧ h.1 = cx_sh Ls H.1 ∧ h.2.2 = true ∧ (∀ a j, lo ≤ a → a < H.1 → j < cx_S a / 32 → h.2.1 a j = cx_lf (cx_gt 10 (cx_gt 10 H.2 a) j)) ∧ ∀ a j, lo ≤ a → a < H.1 → cx_S a / 32 ≤ j → h.2.1 a j = 0 ∨ h.2.1 a j = -1
/-- cells made, their elements, what stays -/
def cx_F (lo : Nat) (h h' : mH) (c s : Nat) : Prop := c + h.1.length = h'.1.length ∧ s + (h.1.map (fun p => p.2)).sum = (h'.1.map (fun p => p.2)).sum ∧ ∀ b, b < lo → h'.2.1 b = h.2.1 b
theorem cx_F.rfl' {lo : Nat} (h : mH) : cx_F lo h h 0 0 := ⟨Nat.zero_add _, Nat.zero_add _, fun _ _ => rfl⟩
theorem cx_F.trans {lo c s c' s' : Nat} {h h1 h2 : mH} (a : cx_F lo h h1 c s) (b : cx_F lo h1 h2 c' s') : cx_F lo h h2 (c + c') (s + s') := by
  obtain ⟨a1, a2, a3⟩ := a
  obtain ⟨b1, b2, b3⟩ := b
  exact ⟨by omega, by omega, fun q hq => (b3 q hq).trans (a3 q hq)⟩
noncomputable def cx_ok (lo n a kd : Nat) : Bool := cond (Nat.ble lo a) (cond (Nat.blt a n) (Nat.beq (cx_S a % 32) kd) false) false
section RL
variable {lo Ls a j kd n c s : Nat} {h : mH} {H : Nat × cx_T} {x : Int} {u : cx_T}
theorem cx_cnd {a b : Bool} (h : cond a b false = true) : a = true ∧ b = true := by
  cases a
  · cases h
  · exact ⟨rfl, h⟩
theorem cx_R.ok (R : cx_R lo Ls h H) (hk : cx_ok lo H.1 a kd = true) : h.1[a]? = some (kd, cx_S a / 32) ∧ cx_S a / 32 < 1024 ∧ lo ≤ a ∧ a < H.1 ∧ 2 ≤ a := by
  obtain ⟨r1, r2, r3, r4, -⟩ := R
  obtain ⟨k1, k2⟩ := cx_cnd hk
  obtain ⟨k2, k3⟩ := cx_cnd k2
  have k1 := Nat.le_of_ble_eq_true k1
  have k2 : a < H.1 := Nat.le_of_ble_eq_true k2
  have k3 := Nat.eq_of_beq_eq_true k3
  obtain ⟨g1, g2⟩ := cx_get (a := a) (by omega)
  rw [k3] at g1
  exact ⟨by rw [r4, cx_shg k2 (by omega)]; exact g1, g2, k1, k2, by omega⟩
theorem cx_R.siz (R : cx_R lo Ls h H) (hk : cx_ok lo H.1 a kd = true) : msz h a kd = some (cx_S a / 32) := by
  unfold msz
  rw [(R.ok hk).1]
  exact if_pos rfl
theorem cx_R.get (R : cx_R lo Ls h H) (hk : cx_ok lo H.1 a kd = true) (hj : j < cx_S a / 32) : h.2.1 a j = cx_lf (cx_gt 10 (cx_gt 10 H.2 a) j) := by
  obtain ⟨-, -, k1, k2, -⟩ := R.ok hk
  exact R.2.2.2.2.2.1 a j k1 k2 hj
theorem cx_R.set (R : cx_R lo Ls h H) (hk : cx_ok lo H.1 a kd = true) (hj : j < cx_S a / 32) (x : Int) : cx_R lo Ls (h.1, mup h.2.1 a j x, h.2.2) (H.1, cx_st 10 H.2 a (cx_st 10 (cx_gt 10 H.2 a) j (.num x))) ∧ cx_F lo h (h.1, mup h.2.1 a j x, h.2.2) 0 0 := by
  obtain ⟨-, k0, k1, k2, -⟩ := R.ok hk
  obtain ⟨r1, r2, r3, r4, r5, r6, r7⟩ := R
  refine ⟨⟨r1, r2, r3, r4, r5, fun b i g1 g2 g3 => ?_, fun b i g1 g2 g3 => ?_⟩, Nat.zero_add _, Nat.zero_add _, fun b hb => ?_⟩
  · have g2' : b < H.1 := g2
    have hi : i < 1024 := by
      have := (cx_get (a := b) (by omega)).2
      omega
    show (if b = a then (if i = j then x else h.2.1 b i) else h.2.1 b i) = _
    show _ = cx_lf (cx_gt 10 (cx_gt 10 (cx_st 10 H.2 a (cx_st 10 (cx_gt 10 H.2 a) j (.num x))) b) i)
    rw [cx_gs 10 H.2 a b _ (by omega) (by omega)]
    by_cases e : b = a
    · rw [if_pos e, if_pos e, cx_gs 10 _ j i _ (by omega) (by omega)]
      by_cases e2 : i = j
      · rw [if_pos e2, if_pos e2]
        rfl
      · rw [if_neg e2, if_neg e2, e]
        rw [e] at g3
        exact r6 a i k1 k2 g3
    · rw [if_neg e, if_neg e]
      exact r6 b i g1 g2 g3
  · show (if b = a then (if i = j then x else h.2.1 b i) else h.2.1 b i) = 0 ∨ (if b = a then (if i = j then x else h.2.1 b i) else h.2.1 b i) = -1
    by_cases e : b = a
    · rw [if_pos e, if_neg (by rw [e] at g3; omega)]
      exact r7 b i g1 g2 g3
    · rw [if_neg e]
      exact r7 b i g1 g2 g3
  · funext i
    show (if b = a then _ else _) = _
    rw [if_neg (by omega)]
theorem cx_R.new {d : Nat → Int} (R : cx_R lo Ls h H) (hn : H.1 < 483) (hs : cx_S H.1 = kd + 32 * n) (hk : kd < 32) (hu : ∀ i, i < n → cx_lf (cx_gt 10 u i) = d i) (hd : ∀ i, d i = 0 ∨ d i = -1) : h.1.length = H.1 ∧ cx_R lo Ls (h.1 ++ [(kd, n)], (fun b i => if b = h.1.length then d i else h.2.1 b i), true) (H.1 + 1, cx_st 10 H.2 H.1 u) ∧ cx_F lo h (h.1 ++ [(kd, n)], (fun b i => if b = h.1.length then d i else h.2.1 b i), true) 1 n := by
  obtain ⟨r1, r2, r3, r4, r5, r6, r7⟩ := R
  have hl : h.1.length = H.1 := by rw [r4]; exact cx_shl r3
  have hg := (cx_get hn).1
  have e1 : cx_S H.1 % 32 = kd := by omega
  have e2 : cx_S H.1 / 32 = n := by omega
  rw [e1, e2] at hg
  refine ⟨hl, ⟨r1, by show lo ≤ H.1 + 1; omega, hn, by show h.1 ++ [(kd, n)] = _; rw [r4, ← cx_shs (by omega) hg], rfl, fun b i g1 g2 g3 => ?_, fun b i g1 g2 g3 => ?_⟩, ?_, ?_, fun b hb => ?_⟩
  · have g2' : b < H.1 + 1 := g2
    show (if b = h.1.length then d i else h.2.1 b i) = cx_lf (cx_gt 10 (cx_gt 10 (cx_st 10 H.2 H.1 u) b) i)
    rw [hl, cx_gs 10 H.2 H.1 b _ (by omega) (by omega)]
    by_cases e : b = H.1
    · rw [if_pos e, if_pos e]
      rw [e, e2] at g3
      exact (hu i g3).symm
    · rw [if_neg e, if_neg e]
      exact r6 b i g1 (by omega) g3
  · have g2' : b < H.1 + 1 := g2
    show (if b = h.1.length then d i else h.2.1 b i) = 0 ∨ (if b = h.1.length then d i else h.2.1 b i) = -1
    rw [hl]
    by_cases e : b = H.1
    · rw [if_pos e]
      exact hd i
    · rw [if_neg e]
      exact r7 b i g1 (by omega) g3
  · show 1 + h.1.length = (h.1 ++ [(kd, n)]).length
    rw [List.length_append]
    exact Nat.add_comm _ _
  · show n + (h.1.map (fun p => p.2)).sum = ((h.1 ++ [(kd, n)]).map (fun p => p.2)).sum
    rw [List.map_append, List.sum_append_nat]
    have e : (List.map (fun (p : Nat × Nat) => p.2) [(kd, n)]).sum = n := Nat.add_zero n
    rw [e]
    exact Nat.add_comm _ _
  · funext i
    show (if b = h.1.length then d i else h.2.1 b i) = _
    rw [if_neg (by omega)]
end RL
