/-! What a step keeps, and what a run keeps, in the small machine alone. -/
section MP
variable {pc pc' : Nat} {L L' : mLs} {st st' : List mV} {h h' : mH} {dc ds : Nat} {fd : Nat → Nat → Int} {nf : Nat → Nat}
set_option maxHeartbeats 1000000 in
theorem mstep_len {e : mE} (hs : mstep fd nf e pc L st h = some (.inl (pc', L', st', h', dc, ds))) : L'.length = L.length ∧ (h'.2.2 = true → h.2.2 = true) := by
  obtain ⟨i, n, a, b, c⟩ := e
  cases i
  case newarray =>
    simp only [mstep, mi1, mnx] at hs
    split at hs
    · split at hs
      · obtain ⟨dc0, ds0, h1, -, -⟩ := mpay_ok hs
        obtain ⟨hf, h2⟩ := mnew_ok h1
        cases h2
        exact ⟨rfl, fun _ => hf⟩
      · cases hs
    · cases hs
  case anewarray =>
    simp only [mstep, mi1, mnx] at hs
    split at hs
    · split at hs
      · obtain ⟨dc0, ds0, h1, -, -⟩ := mpay_ok hs
        obtain ⟨hf, h2⟩ := mnew_ok h1
        cases h2
        exact ⟨rfl, fun _ => hf⟩
      · cases hs
    · cases hs
  case new =>
    simp only [mstep, mnx] at hs
    split at hs
    · split at hs <;> cases hs
    · obtain ⟨dc0, ds0, h1, -, -⟩ := mpay_ok hs
      obtain ⟨hf, h2⟩ := mnew_ok h1
      cases h2
      exact ⟨rfl, fun _ => hf⟩
  all_goals (try simp only [mstep, mcp, mci, mcj, mnx, mi1, mi2, mj2, mji, mp1, mix, mst, mif, mrd, mwr, mcall] at hs)
  all_goals (repeat' split at hs)
  all_goals first
    | (cases hs; done)
    | (cases hs; exact ⟨rfl, fun h => h⟩)
    | (cases hs; exact ⟨by simp, fun h => h⟩)
end MP
