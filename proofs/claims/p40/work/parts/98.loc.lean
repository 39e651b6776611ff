/-! Groups told as numbers. -/
theorem grpL_len {L : List Int} (hs : L.Pairwise (fun a b => a < b)) (hok : ∀ c ∈ L, okLc c) : (grpL L).length ≤ L.length := by
  have hj := jnA_len (L.foldl addR []).length (L.foldl addR []).reverse
  have hf := congrArg List.length (fold_all hs hok)
  rw [List.length_append, List.length_append] at hf
  have hsp := congrArg List.length (split_codes hs hok)
  rw [List.length_append, List.length_append] at hsp
  have hpl : ∀ s, (pgS s L).length = (cdS s L).length := fun s => List.length_map _
  have p0 := hpl 0
  have p1 := hpl 1
  have p2 := hpl 2
  have r0 := runs_len (s := 0) (pgS 0 L)
  have r1 := runs_len (s := 1) (pgS 1 L)
  have r2 := runs_len (s := 2) (pgS 2 L)
  unfold grpL
  omega
section LOCA
variable {Ls N k pc n n' nn b c t a q kd w d p X T : Nat} {L0 : mLs} {st r as : List mV} {h h' : mH} {σ σ' σ'' : Sg} {post : tP} {x y z x' y' i i' s v m u lv : Int} {xs ys ss L M P A B : List Int} {e : mE} {C : Nat → Nat → Prop} {R : Nat → Prop} {tx : List (List Int)} {en : List EnT} {gs rg : List Gp}
theorem s_72 (hG : gpIs σ gs) (K : post (.inl (some (mI (gs.length : Int)))) σ) : Tr Ls N 72 0 [some (mP (some 146))] [] σ post := by
  repeat (first | refine tr_gr rfl ⟨by decide, rfl⟩ (by decide) rfl ?_ | refine tr_gi rfl (by decide) ⟨by decide, rfl⟩ (by decide) rfl rfl ?_ | refine tr_gr rfl (by assumption) (by decide) (by assumption) ?_ | refine tr_gi rfl (by decide) (by assumption) (by decide) (by assumption) (by assumption) ?_ | (refine tr_rem ?_ ?_ rfl ?_; omega; omega) | (refine tr_div ?_ ?_ rfl ?_; omega; omega) | refine tr_mv rfl (fun _ => rfl) ?_ | refine tr_ia2 (m32_of (by omega)) (by omega) rfl (fun _ => rfl) rfl (by decide) (by decide) (fun _ => rfl) ?_ | refine tr_size (by assumption) rfl rfl ?_ | refine tr_at2 (by assumption) (m32_of (by omega)) rfl rfl ?_)
  refine tr_size r_147 rfl rfl ?_
  rw [hG.1, List.length_map]
  exact tr_ri rfl rfl K
theorem s_73 (hG : gpIs σ gs) (hl : gs.length ≤ 10) (hx : in32 x) (K1 : ¬ (0 ≤ x ∧ x < (gs.length : Int)) → post (.inl (some (mI (-1)))) σ) (K2 : ∀ j : Nat, x = (j : Int) → j < gs.length → post (.inl (some (mI (gnum (gs.getD j (0, 0, 0)))))) σ) : Tr Ls N 73 0 [some (mP (some 146)), some (mI x)] [] σ post := by
  obtain ⟨g1, g2, g3⟩ := hG
  have at1 : ∀ (f : Gp → Int) (j : Nat), j < gs.length → rget (gs.map f) (j : Int) = f (gs.getD j (0, 0, 0)) := fun f j hj => by
    rw [rget_nat (by simpa using hj), List.getD_eq_getElem?_getD, List.getElem?_map, List.getD_eq_getElem?_getD, List.getElem?_eq_getElem hj]
    rfl
  iterate 1 (refine tr_mv rfl (fun _ => rfl) ?_)
  refine tr_if2 rfl (m32_of (by omega)) (fun c1 => ?_) (fun c1 => ?_)
  · have c2 : x < 0 := c1
    iterate 1 (refine tr_mv rfl (fun _ => rfl) ?_)
    exact tr_ri rfl rfl (K1 (by omega))
  · have c2 : ¬ x < 0 := c1
    repeat (first | refine tr_gr rfl ⟨by decide, rfl⟩ (by decide) rfl ?_ | refine tr_gi rfl (by decide) ⟨by decide, rfl⟩ (by decide) rfl rfl ?_ | refine tr_gr rfl (by assumption) (by decide) (by assumption) ?_ | refine tr_gi rfl (by decide) (by assumption) (by decide) (by assumption) (by assumption) ?_ | (refine tr_rem ?_ ?_ rfl ?_; omega; omega) | (refine tr_div ?_ ?_ rfl ?_; omega; omega) | refine tr_mv rfl (fun _ => rfl) ?_ | refine tr_ia2 (m32_of (by omega)) (by omega) rfl (fun _ => rfl) rfl (by decide) (by decide) (fun _ => rfl) ?_ | refine tr_size (by assumption) rfl rfl ?_ | refine tr_at2 (by assumption) (m32_of (by omega)) rfl rfl ?_)
    refine tr_size r_147 rfl rfl ?_
    rw [g1, List.length_map]
    refine tr_cmp2 rfl (m32_of (by omega)) (m32_of (by omega)) (fun c3 => ?_) (fun c3 => ?_)
    · have c4 : x < (gs.length : Int) := c3
      obtain ⟨j, rfl⟩ : ∃ j : Nat, x = (j : Int) := ⟨x.toNat, by omega⟩
      have hj : j < gs.length := by omega
      repeat (first | refine tr_gr rfl ⟨by decide, rfl⟩ (by decide) rfl ?_ | refine tr_gi rfl (by decide) ⟨by decide, rfl⟩ (by decide) rfl rfl ?_ | refine tr_gr rfl (by assumption) (by decide) (by assumption) ?_ | refine tr_gi rfl (by decide) (by assumption) (by decide) (by assumption) (by assumption) ?_ | (refine tr_rem ?_ ?_ rfl ?_; omega; omega) | (refine tr_div ?_ ?_ rfl ?_; omega; omega) | refine tr_mv rfl (fun _ => rfl) ?_ | refine tr_ia2 (m32_of (by omega)) (by omega) rfl (fun _ => rfl) rfl (by decide) (by decide) (fun _ => rfl) ?_ | refine tr_size (by assumption) rfl rfl ?_ | refine tr_at2 (by assumption) (m32_of (by omega)) rfl rfl ?_)
      refine tr_at2 r_147 (m32_of (by omega)) rfl rfl ?_
      rw [g1, at1 _ j hj]
      repeat (first | refine tr_gr rfl ⟨by decide, rfl⟩ (by decide) rfl ?_ | refine tr_gi rfl (by decide) ⟨by decide, rfl⟩ (by decide) rfl rfl ?_ | refine tr_gr rfl (by assumption) (by decide) (by assumption) ?_ | refine tr_gi rfl (by decide) (by assumption) (by decide) (by assumption) (by assumption) ?_ | (refine tr_rem ?_ ?_ rfl ?_; omega; omega) | (refine tr_div ?_ ?_ rfl ?_; omega; omega) | refine tr_mv rfl (fun _ => rfl) ?_ | refine tr_ia2 (m32_of (by omega)) (by omega) rfl (fun _ => rfl) rfl (by decide) (by decide) (fun _ => rfl) ?_ | refine tr_size (by assumption) rfl rfl ?_ | refine tr_at2 (by assumption) (m32_of (by omega)) rfl rfl ?_)
      refine tr_at2 r_149 (m32_of (by omega)) rfl rfl ?_
      rw [g2, at1 _ j hj]
      repeat (first | refine tr_gr rfl ⟨by decide, rfl⟩ (by decide) rfl ?_ | refine tr_gi rfl (by decide) ⟨by decide, rfl⟩ (by decide) rfl rfl ?_ | refine tr_gr rfl (by assumption) (by decide) (by assumption) ?_ | refine tr_gi rfl (by decide) (by assumption) (by decide) (by assumption) (by assumption) ?_ | (refine tr_rem ?_ ?_ rfl ?_; omega; omega) | (refine tr_div ?_ ?_ rfl ?_; omega; omega) | refine tr_mv rfl (fun _ => rfl) ?_ | refine tr_ia2 (m32_of (by omega)) (by omega) rfl (fun _ => rfl) rfl (by decide) (by decide) (fun _ => rfl) ?_ | refine tr_size (by assumption) rfl rfl ?_ | refine tr_at2 (by assumption) (m32_of (by omega)) rfl rfl ?_)
      refine tr_at2 r_151 (m32_of (by omega)) rfl rfl ?_
      rw [g3, at1 _ j hj]
      iterate 1 (refine tr_mv rfl (fun _ => rfl) ?_)
      exact tr_ri rfl rfl (K2 j rfl hj)
    · have c4 : ¬ x < (gs.length : Int) := c3
      iterate 1 (refine tr_mv rfl (fun _ => rfl) ?_)
      exact tr_ri rfl rfl (K1 (by omega))
end LOCA
