/-! The model's keys. -/
theorem runB_in (l : Bool) (n : Nat) : ∀ w ∈ runB l n, 1 ≤ w ∧ w ≤ 200 := by
  induction n using Nat.strongRecOn with
  | ind n ih =>
    intro w hw
    rw [runB] at hw
    split at hw
    · rcases List.mem_cons.mp hw with g | g
      · omega
      · exact ih (n - 30) (by omega) w g
    · split at hw
      · rw [List.mem_singleton.mp hw]
        split <;> omega
      · cases hw
theorem runsB_in : ∀ (ws : List Int) (n : Nat), (∀ w ∈ ws, 1 ≤ w ∧ w ≤ 100) → ∀ w ∈ runsB n ws, 1 ≤ w ∧ w ≤ 200
  | [], n, _, w, hw => runB_in true n w hw
  | y :: ws, n, h, w, hw => by
    unfold runsB at hw
    have hy := h y List.mem_cons_self
    split at hw
    · exact runsB_in ws (n + 1) (fun z hz => h z (List.mem_cons_of_mem _ hz)) w hw
    · rcases List.mem_append.mp hw with g | g
      · exact runB_in false n w g
      · rcases List.mem_cons.mp g with g | g
        · omega
        · exact runsB_in ws 0 (fun z hz => h z (List.mem_cons_of_mem _ hz)) w g
theorem lvKey_in {els : List El} (h : okEls els) (lv sh bw : Int) : ∀ w ∈ lvKey lv sh bw els, 1 ≤ w ∧ w ≤ 200 := by
  intro w hw
  have hR := lvRow_in h lv sh bw
  unfold lvKey at hw
  rcases List.mem_append.mp hw with g | g
  · split at g
    · exact runsB_in _ _ hR w g
    · obtain ⟨z, hz, rfl⟩ := List.mem_map.mp g
      have := hR z hz
      omega
  · rw [List.mem_singleton.mp g]
    omega
theorem keyLv_in {els : List El} (h : okEls els) (sh bw : Int) : ∀ (d : Nat) (lv : Int), ∀ w ∈ keyLv sh bw els d lv, 1 ≤ w ∧ w ≤ 200
  | 0, _, w, hw => absurd hw List.not_mem_nil
  | d + 1, lv, w, hw => by
    unfold keyLv at hw
    rcases List.mem_append.mp hw with g | g
    · exact lvKey_in h lv sh bw w g
    · exact keyLv_in h sh bw d (lv + 1) w g
theorem keyOf_in {D : TD} (hD : okTD D) {o : Nat → Int} {d : Nat} {ss : List Int} (h40 : okA40 ss) (hls : ss.length ≤ 31) : ∀ w ∈ keyOf D o d ss, 1 ≤ w ∧ w ≤ 200 := keyLv_in (gthR_ok hD h40 hls) _ _ _ _
abbrev cKo (q i : Nat) : Prop := cEG q i ∨ cWg q i ∨ cKy q i
