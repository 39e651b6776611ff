/-! A rule told keeps what holds of a tailoring. -/
theorem rplace_get {xs : List Int} {x : Int} {p : Nat} (h : rplace xs x = (p : Int)) (hp : p < xs.length) : xs[p]? = some x := by
  unfold rplace at h
  split at h
  · rename_i j hj
    have : j = p := by omega
    subst this
    have := List.findIdx?_eq_some_iff_getElem.mp hj
    obtain ⟨h1, h2, -⟩ := this
    rw [List.getElem?_eq_getElem hp]
    exact congrArg some (of_decide_eq_true h2)
  · omega
/-- a list without repetitions less one -/
theorem rrem_mem {xs : List Int} (hn : xs.Nodup) (x c : Int) : c ∈ rrem xs (rplace xs x) ↔ c ∈ xs ∧ c ≠ x := by
  rcases rplace_nat xs x with ⟨h1, h2⟩ | ⟨p, h1, h2, h3⟩
  · rw [h1, show rrem xs (-1) = xs from if_neg (by omega)]
    exact ⟨fun g => ⟨g, fun e => h2 (by rw [← e]; exact g)⟩, fun g => g.1⟩
  · have hx := rplace_get h1 h2
    rw [h1, rrem_nat h2, List.mem_eraseIdx_iff_getElem?]
    constructor
    · rintro ⟨i, hi, hc⟩
      refine ⟨List.mem_of_getElem? hc, fun e => hi ?_⟩
      rw [e, ← hx] at hc
      exact (List.getElem?_inj (by
        have := (List.getElem?_eq_some_iff.mp (hc.trans hx)).1
        exact this) hn).mp hc
    · rintro ⟨g1, g2⟩
      obtain ⟨i, hi, rfl⟩ := List.getElem_of_mem g1
      refine ⟨i, fun e => g2 ?_, List.getElem?_eq_getElem hi⟩
      subst e
      rw [List.getElem?_eq_getElem hi] at hx
      exact Option.some.inj hx
theorem rrem_nodup {xs : List Int} (hn : xs.Nodup) (i : Int) : (rrem xs i).Nodup := by
  unfold rrem
  split
  · exact hn.sublist (List.eraseIdx_sublist _ _)
  · exact hn
theorem rrem_sub {xs : List Int} {i c : Int} (h : c ∈ rrem xs i) : c ∈ xs := by
  unfold rrem at h
  split at h
  · exact (List.eraseIdx_sublist _ _).mem h
  · exact h
/-- pairs of two lists less the same place -/
theorem rrem_pair {xs ys : List Int} (hl : xs.length = ys.length) (i : Int) {P : Int → Int → Prop} (h : ∀ (j : Nat) (c s : Int), xs[j]? = some c → ys[j]? = some s → P c s) : ∀ (j : Nat) (c s : Int), (rrem xs i)[j]? = some c → (rrem ys i)[j]? = some s → P c s := by
  intro j c s h1 h2
  unfold rrem at h1 h2
  by_cases g : 0 ≤ i ∧ i < (xs.length : Int)
  · rw [if_pos g] at h1
    rw [if_pos (by rw [← hl]; exact g)] at h2
    rw [List.getElem?_eraseIdx] at h1 h2
    split at h1
    · rename_i g2
      rw [if_pos g2] at h2
      exact h j c s h1 h2
    · rename_i g2
      rw [if_neg g2] at h2
      exact h (j + 1) c s h1 h2
  · rw [if_neg g] at h1
    rw [if_neg (by rw [← hl]; exact g)] at h2
    exact h j c s h1 h2
theorem rins_nat {n : Nat} {xs : List Int} {q : Nat} {v : Int} (hq : q ≤ xs.length) (hn : xs.length < n) : rins n xs (q : Int) v = xs.insertIdx q v := by
  unfold rins
  rw [if_pos ⟨by omega, by omega, hn⟩, Int.toNat_natCast]
theorem ins_mem {xs : List Int} {q : Nat} {v c : Int} (hq : q ≤ xs.length) : c ∈ xs.insertIdx q v ↔ c = v ∨ c ∈ xs := List.mem_insertIdx hq
theorem ins_nodup {xs : List Int} {q : Nat} {v : Int} (hq : q ≤ xs.length) (hn : xs.Nodup) (hv : v ∉ xs) : (xs.insertIdx q v).Nodup :=
  (List.perm_insertIdx v xs hq).nodup_iff.mpr (List.nodup_cons.mpr ⟨hv, hn⟩)
theorem ins_head {xs : List Int} {q : Nat} {v : Int} (hq : 1 ≤ q) (hx : xs.head? = some 1) : (xs.insertIdx q v).head? = some 1 := by
  cases xs with
  | nil => cases hx
  | cons a l =>
    obtain ⟨j, rfl⟩ : ∃ j, q = j + 1 := ⟨q - 1, by omega⟩
    rw [List.insertIdx_succ_cons]
    exact hx
theorem set_head {xs : List Int} {q : Nat} {v : Int} (hq : 1 ≤ q) (hx : xs.head? = some 1) : (xs.set q v).head? = some 1 := by
  cases xs with
  | nil => cases hx
  | cons a l =>
    obtain ⟨j, rfl⟩ : ∃ j, q = j + 1 := ⟨q - 1, by omega⟩
    exact hx
theorem imin_in {a b : Int} : imin a b = a ∨ imin a b = b := by
  unfold imin
  split
  · exact Or.inr rfl
  · exact Or.inl rfl
/-- the levels when an item left -/
theorem lvL_ok {its lvs : List Int} (hl : its.length = lvs.length) (h2 : 2 ≤ lvs.length) (hr : ∀ l ∈ lvs, 1 ≤ l ∧ l ≤ 4) (h0 : lvs.head? = some 1) (x : Int) : (∀ l ∈ lvL its lvs x, 1 ≤ l ∧ l ≤ 4) ∧ (lvL its lvs x).head? = some 1 := by
  unfold lvL
  by_cases g : rplace its x = -1
  · rw [if_pos g]
    exact ⟨hr, h0⟩
  · rw [if_neg g]
    rcases rplace_nat its x with ⟨h1, -⟩ | ⟨p, h1, hp, -⟩
    · exact absurd h1 g
    · rw [h1]
      have hset : ∀ l ∈ rset lvs ((p : Int) + 1) (imin (rget lvs (p : Int)) (rget lvs ((p : Int) + 1))), 1 ≤ l ∧ l ≤ 4 := by
        intro l hl2
        rw [show (p : Int) + 1 = ((p + 1 : Nat) : Int) by omega] at hl2
        rw [rset_nat2] at hl2
        by_cases g2 : p + 1 < lvs.length
        · rcases List.mem_or_eq_of_mem_set hl2 with g3 | g3
          · exact hr l g3
          · rw [g3]
            rcases imin_in (a := rget lvs (p : Int)) (b := rget lvs ((p + 1 : Nat) : Int)) with g4 | g4
            · rw [g4]; exact hr _ (rget_mem (by omega))
            · rw [g4]; exact hr _ (rget_mem (by omega))
        · rw [set_out (by omega)] at hl2
          exact hr l hl2
      refine ⟨fun l hl2 => hset l (rrem_sub hl2), ?_⟩
      have hlen : (rset lvs ((p : Int) + 1) (imin (rget lvs (p : Int)) (rget lvs ((p : Int) + 1)))).length = lvs.length := rset_len _ _ _
      rw [rrem_nat (by omega)]
      cases lvs with
      | nil => cases h0
      | cons a l =>
        have ha : a = 1 := Option.some.inj h0
        subst ha
        cases p with
        | zero =>
          cases l with
          | nil => simp at h2
          | cons b r =>
            have hb := hr b (by simp)
            have e1 : rget (1 :: b :: r) ((0 : Nat) : Int) = 1 := by rw [rget_nat (by simp)]; rfl
            have e2 : rget (1 :: b :: r) (((0 : Nat) : Int) + 1) = b := by rw [show ((0 : Nat) : Int) + 1 = ((1 : Nat) : Int) by omega, rget_nat (by simp)]; rfl
            rw [e1, e2, show ((0 : Nat) : Int) + 1 = ((1 : Nat) : Int) by omega, rset_nat2]
            show some (imin 1 b) = some 1
            unfold imin
            rw [if_neg (by omega)]
        | succ p =>
          rw [show ((p + 1 : Nat) : Int) + 1 = ((p + 2 : Nat) : Int) by omega, rset_nat2]
          rfl
/-- where a rule's item goes -/
theorem tell_ok {D : TD} (hD : okTD D) {how an it : Int} (hh : 0 ≤ how ∧ how ≤ 7) (hc : D.1.length < 48) (ha : how ≠ 7 → an ∈ itL D.1 it) : ((tellL D.1 D.2.1 how an it).1.length = (tellL D.1 D.2.1 how an it).2.length) ∧ (tellL D.1 D.2.1 how an it).1.length ≤ D.1.length + 1 ∧ (tellL D.1 D.2.1 how an it).1.Nodup ∧ (∀ c, c ∈ (tellL D.1 D.2.1 how an it).1 ↔ (c ∈ D.1 ∧ c ≠ it) ∨ (how ≠ 7 ∧ c = it)) ∧ (∀ l ∈ (tellL D.1 D.2.1 how an it).2, 1 ≤ l ∧ l ≤ 4) ∧ (tellL D.1 D.2.1 how an it).2.head? = some 1 := by
  have h1 := hD.1
  have hn := hD.2.2.2.1
  have h7 := hD.2.2.2.2.2.2.1
  have h8 := hD.2.2.2.2.2.2.2.1
  have h13 := hD.2.2.2.2.2.2.2.2.2.2.2.2.1
  have h2 : 2 ≤ D.1.length := by
    have k1 := h13 29 (by decide) (by decide)
    have k2 := h13 30 (by decide) (by decide)
    have := sub_len (l1 := [29, 30]) (l2 := D.1) (by decide) (fun x hx => by
      rcases List.mem_cons.mp hx with g | g
      · rw [g]; exact k1
      · rw [List.mem_singleton.mp g]; exact k2)
    exact this
  obtain ⟨l7, l8⟩ := lvL_ok h1 (by omega) h7 h8 it
  have hmem := rrem_mem hn it
  have hnd := rrem_nodup hn (rplace D.1 it)
  have hlen := rrem_len D.1 (rplace D.1 it)
  have hll := lvL_len h1 it
  have hni : it ∉ itL D.1 it := fun g => ((hmem it).mp g).2 rfl
  have hle : (itL D.1 it).length ≤ D.1.length := by
    unfold itL
    rw [hlen]
    split <;> omega
  have hmem2 : ∀ c, c ∈ itL D.1 it ↔ c ∈ D.1 ∧ c ≠ it := hmem
  have hnd2 : (itL D.1 it).Nodup := hnd
  unfold tellL
  by_cases g7 : how = 7
  · rw [if_pos g7]
    refine ⟨hll.symm, by show (itL D.1 it).length ≤ _; omega, hnd2, fun c => ?_, l7, l8⟩
    rw [show (itL D.1 it, lvL D.1 D.2.1 it).1 = itL D.1 it from rfl, hmem2]
    exact ⟨fun g => Or.inl g, fun g => by
      rcases g with g | g
      · exact g
      · exact absurd g7 g.1⟩
  · rw [if_neg g7]
    have ham := ha g7
    generalize itL D.1 it = its at *
    generalize lvL D.1 D.2.1 it = lvs at *
    rcases rplace_nat its an with ⟨-, q2⟩ | ⟨p, q1, q2, q3⟩
    · exact absurd ham q2
    · rw [q1, Int.toNat_natCast]
      have hm9 : ∀ c (P : Prop), (P ↔ c = it ∨ c ∈ its) → (P ↔ (c ∈ D.1 ∧ c ≠ it) ∨ (how ≠ 7 ∧ c = it)) := fun c P g => by
        rw [g, hmem2]
        exact ⟨fun g => by
          rcases g with g | g
          · exact Or.inr ⟨g7, g⟩
          · exact Or.inl g, fun g => by
          rcases g with g | g
          · exact Or.inr g
          · exact Or.inl g.2⟩
      by_cases g4 : 4 ≤ how
      · rw [if_pos g4]
        have haf := ahF_le lvs (how - 4 + 1) p
        generalize ahF lvs (how - 4 + 1) p = a at *
        rw [rins_nat (by omega) (by omega), rins_nat (by omega) (by omega), show (a : Int) + 1 = ((a + 1 : Nat) : Int) by omega, rset_nat2]
        refine ⟨?_, ?_, ins_nodup (by omega) hnd2 hni, fun c => hm9 c _ (ins_mem (by omega)), fun l hl => ?_, ?_⟩
        · show (its.insertIdx a it).length = ((lvs.insertIdx a (lvs.getD a 0)).set (a + 1) (how - 4 + 1)).length
          rw [List.length_set, List.length_insertIdx_of_le_length (by omega), List.length_insertIdx_of_le_length (by omega)]
          omega
        · show (its.insertIdx a it).length ≤ _
          rw [List.length_insertIdx_of_le_length (by omega)]
          omega
        · rcases List.mem_or_eq_of_mem_set hl with g | g
          · rcases (ins_mem (by omega)).mp g with g | g
            · rw [g]
              exact l7 _ (getD_mem (by omega))
            · exact l7 _ g
          · rw [g]
            omega
        · refine set_head (by omega) ?_
          cases a with
          | zero =>
            rw [List.insertIdx_zero]
            cases lvs with
            | nil => cases l8
            | cons b r => exact l8
          | succ a => exact ins_head (by omega) l8
      · rw [if_neg g4]
        have hbf := bhF_le lvs (if how = 0 then 4 else how) (its.length - (p + 1)) (p + 1)
        generalize bhF lvs (if how = 0 then 4 else how) (its.length - (p + 1)) (p + 1) = a at *
        rw [rins_nat (by omega) (by omega), rins_nat (by omega) (by omega)]
        refine ⟨?_, ?_, ins_nodup (by omega) hnd2 hni, fun c => hm9 c _ (ins_mem (by omega)), fun l hl => ?_, ins_head (by omega) l8⟩
        · show (its.insertIdx a it).length = (lvs.insertIdx a (if how = 0 then 4 else how)).length
          rw [List.length_insertIdx_of_le_length (by omega), List.length_insertIdx_of_le_length (by omega)]
          omega
        · show (its.insertIdx a it).length ≤ _
          rw [List.length_insertIdx_of_le_length (by omega)]
          omega
        · rcases (ins_mem (by omega)).mp hl with g | g
          · rw [g]
            split <;> omega
          · exact l7 _ g
theorem okTD_tell {D : TD} (hD : okTD D) {how an it : Int} {n : Nat} (hh : 0 ≤ how ∧ how ≤ 7) (hq : canTellQ D.1 D.2.2.2 n how an it) (han : okCd an) (hit : okCd it) (hc : D.1.length < 48) (hc2 : D.2.2.1.length < 12) : okTD (tellD D how an it) := by
  obtain ⟨q1, q2, q3, q4, q5, q6⟩ := hq
  have ha : how ≠ 7 → an ∈ itL D.1 it := fun g => (rrem_mem hD.2.2.2.1 it an).mpr ⟨q6 g, q3⟩
  obtain ⟨t1, t2, t3, t4, t5, t6⟩ := tell_ok hD hh hc ha
  obtain ⟨h1, h2, h3, h4, h5, h6, h7, h8, h9, h10, h11, h12, h13, h14⟩ := hD
  have hrl : (rrem D.2.2.1 (rplace D.2.2.1 it)).length = (rrem D.2.2.2 (rplace D.2.2.1 it)).length := by
    rw [rrem_len, rrem_len, h6.1]
  have hrle : (rrem D.2.2.1 (rplace D.2.2.1 it)).length ≤ D.2.2.1.length := by
    rw [rrem_len]
    split <;> omega
  have hsvm : ∀ c, c ∈ (tellD D how an it).2.2.1 ↔ (c ∈ D.2.2.1 ∧ c ≠ it) ∨ (how = 7 ∧ c = it) := fun c => by
    show c ∈ rrem D.2.2.1 (rplace D.2.2.1 it) ++ (if how = 7 then [it] else []) ↔ _
    rw [List.mem_append, rrem_mem h5]
    by_cases g : how = 7
    · rw [if_pos g, List.mem_singleton]
      exact ⟨fun k => by
        rcases k with k | k
        · exact Or.inl k
        · exact Or.inr ⟨g, k⟩, fun k => by
        rcases k with k | k
        · exact Or.inl k
        · exact Or.inr k.2⟩
    · rw [if_neg g]
      exact ⟨fun k => by
        rcases k with k | k
        · exact Or.inl k
        · exact absurd k List.not_mem_nil, fun k => by
        rcases k with k | k
        · exact Or.inl k
        · exact absurd k.1 g⟩
  have hsgm : ∀ s, s ∈ (tellD D how an it).2.2.2 → s ∈ D.2.2.2 ∨ (how = 7 ∧ s = an) := fun s hs => by
    have hs2 : s ∈ rrem D.2.2.2 (rplace D.2.2.1 it) ++ (if how = 7 then [an] else []) := hs
    rcases List.mem_append.mp hs2 with g | g
    · exact Or.inl (rrem_sub g)
    · by_cases g7 : how = 7
      · rw [if_pos g7] at g
        exact Or.inr ⟨g7, List.mem_singleton.mp g⟩
      · rw [if_neg g7] at g
        exact absurd g List.not_mem_nil
  have t4' : ∀ c, c ∈ (tellD D how an it).1 ↔ (c ∈ D.1 ∧ c ≠ it) ∨ (how ≠ 7 ∧ c = it) := t4
  -- what was in the list is there, but for what became several
  have keep : ∀ c, c ∈ D.1 → (how = 7 → c ≠ it) → c ∈ (tellD D how an it).1 := fun c hc1 hc2 => by
    by_cases g : c = it
    · by_cases g7 : how = 7
      · exact absurd g (hc2 g7)
      · exact (t4' c).mpr (Or.inr ⟨g7, g⟩)
    · exact (t4' c).mpr (Or.inl ⟨hc1, g⟩)
  refine ⟨t1, by show (tellL D.1 D.2.1 how an it).1.length ≤ 48; omega, ?_, t3, ?_, ⟨?_, ?_⟩, t5, t6, ?_, ?_, ?_, ?_, ?_, ?_⟩
  · show (rrem D.2.2.1 (rplace D.2.2.1 it) ++ (if how = 7 then [it] else [])).length ≤ 12
    rw [List.length_append]
    split
    · rw [List.length_singleton]; omega
    · rw [List.length_nil]; omega
  · show (rrem D.2.2.1 (rplace D.2.2.1 it) ++ (if how = 7 then [it] else [])).Nodup
    by_cases g : how = 7
    · rw [if_pos g]
      refine List.nodup_append.mpr ⟨rrem_nodup h5 _, by simp, fun a ha b hb => ?_⟩
      rw [List.mem_singleton.mp hb]
      exact ((rrem_mem h5 it a).mp ha).2
    · rw [if_neg g, List.append_nil]
      exact rrem_nodup h5 _
  · show (rrem D.2.2.1 (rplace D.2.2.1 it) ++ (if how = 7 then [it] else [])).length = (rrem D.2.2.2 (rplace D.2.2.1 it) ++ (if how = 7 then [an] else [])).length
    rw [List.length_append, List.length_append, hrl]
    split <;> rfl
  · intro s hs
    rcases hsgm s hs with g | g
    · exact h6.2 s g
    · rw [g.2]; exact han
  · intro c hc1
    rcases (t4' c).mp hc1 with g | g
    · exact h9 c g.1
    · rw [g.2]
      exact ⟨hit, Or.inl q4⟩
  · intro c hc1
    rcases (hsvm c).mp hc1 with g | g
    · exact h10 c g.1
    · rw [g.2]
      exact ⟨hit, q4⟩
  · intro s hs
    rcases hsgm s hs with g | g
    · refine ⟨(h11 s g).1, fun k k1 k2 => ?_⟩
      have := (h11 s g).2 k k1 k2
      refine ⟨this.1, keep _ this.2 (fun g7 e => ?_)⟩
      have hns := (q5 g7).2.2.2.2
      exact hns (oneOf_iff.mpr ⟨s, g, (hasSg_iff (h6.2 s g).1).mpr ⟨k.toNat, by omega, by rw [show ((k.toNat : Nat) : Int) = k by omega]; exact e⟩⟩)
    · have hcs := (canSort_iff han.1).mp (q5 g.1)
      rw [g.2]
      refine ⟨hcs.1, fun k k1 k2 => ?_⟩
      have := hcs.2.1 k.toNat (by omega)
      rw [show ((k.toNat : Nat) : Int) = k by omega] at this
      exact ⟨this.1, keep _ this.2.1 (fun _ => this.2.2)⟩
  · intro s hs
    rcases h12 s hs with g | g
    · by_cases g7 : how = 7
      · by_cases e : s + 1 = it
        · exact Or.inr ((hsvm _).mpr (Or.inr ⟨g7, e⟩))
        · exact Or.inl (keep _ g (fun _ => e))
      · exact Or.inl (keep _ g (fun k => absurd k g7))
    · by_cases e : s + 1 = it
      · by_cases g7 : how = 7
        · exact Or.inr ((hsvm _).mpr (Or.inr ⟨g7, e⟩))
        · exact Or.inl ((t4' _).mpr (Or.inr ⟨g7, e⟩))
      · exact Or.inr ((hsvm _).mpr (Or.inl ⟨g, e⟩))
  · intro c c1 c2
    refine keep c (h13 c c1 c2) (fun _ e => ?_)
    have hs1 : sgIn it = 1 := by
      unfold sgIn
      rw [if_neg (by omega), if_pos (by omega)]
    have hs2 : sgAt it 0 = it - 1 := by
      unfold sgAt
      rw [hs1, if_neg (by omega), if_neg (by omega)]
      omega
    have := q4.2.1
    rw [hs2] at this
    omega
  · have hp := rrem_pair h6.1 (rplace D.2.2.1 it) h14
    intro i c s hc1 hs1
    have hc3 : (rrem D.2.2.1 (rplace D.2.2.1 it) ++ (if how = 7 then [it] else []))[i]? = some c := hc1
    have hs3 : (rrem D.2.2.2 (rplace D.2.2.1 it) ++ (if how = 7 then [an] else []))[i]? = some s := hs1
    by_cases gi : i < (rrem D.2.2.1 (rplace D.2.2.1 it)).length
    · rw [List.getElem?_append_left gi] at hc3
      rw [List.getElem?_append_left (by omega)] at hs3
      exact hp i c s hc3 hs3
    · rw [List.getElem?_append_right (by omega)] at hc3 hs3
      by_cases g7 : how = 7
      · rw [if_pos g7] at hc3 hs3
        have ec : it = c := List.mem_singleton.mp (List.mem_of_getElem? hc3) |>.symm
        have es : an = s := List.mem_singleton.mp (List.mem_of_getElem? hs3) |>.symm
        rw [← ec, ← es]
        intro hh2
        obtain ⟨k, k1, k2⟩ := (hasSg_iff han.1).mp hh2
        exact ((canSort_iff han.1).mp (q5 g7)).2.1 k k1 |>.2.2 k2
      · rw [if_neg g7] at hc3
        simp at hc3
