/-! Texts and entries on the model's side; its order of an index. -/
abbrev cOd (q i : Nat) : Prop := cQ q i ∨ q = 522 ∨ (q = 480 ∧ i = 53)
section MORD
variable {Ls N k pc n n' nn b c t a q kd w d p X : Nat} {L L0 : mLs} {st r as : List mV} {h h' : mH} {σ σ' σ'' : Sg} {post : tP} {x y z x' y' i i' s v m u lv : Int} {xs ys : List Int} {e : mE} {C : Nat → Nat → Prop} {R : Nat → Prop} {tx : List (List Int)} {en : List EnT} {D : TD} {o : Nat → Int}
theorem cQ_nin {q i : Nat} (g : cQ q i) : q = 489 ∨ (504 ≤ q ∧ q ≤ 511) ∨ (q = 480 ∧ (i = 13 ∨ i = 32 ∨ i = 34 ∨ i = 36 ∨ i = 38 ∨ i = 40)) := by
  rcases g with g | g
  · unfold cRow at g
    omega
  · omega
theorem mnO_lt (hE : okEn tx en) (ha : a < en.length) : mnO (prE en) a < en.length := by
  unfold mnO
  rcases hE.2.2 a ha with g | ⟨p, g1, g2, -⟩
  · rw [if_pos (show prE en a = -1 from g)]
    exact ha
  · have e : prE en a = (p : Int) := g1
    rw [if_neg (by omega), e, Int.toNat_natCast]
    exact g2
end MORD
