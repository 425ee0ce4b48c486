/-! questions that change nothing -/
theorem q_asked {h : MH} (S : Sim h) : ∃ v, f_X6_asked h = some v ∧ f_X7_asked h = some v := by
  obtain ⟨_, _, _, _, s5, _⟩ := S
  unfold SA at s5
  exact ⟨h.1 0 9, rfl, by unfold f_X7_asked; rw [s5]⟩
theorem q_upper {h : MH} (S : Sim h) : ∃ v, f_X6_upper h = some v ∧ f_X7_upper h = some v := by
  obtain ⟨_, _, _, _, _, s6, _⟩ := S
  exact ⟨h.2.1 16 0, rfl, by unfold f_X7_upper; rw [s6.1]⟩
theorem q_lower {h : MH} (S : Sim h) : ∃ v, f_X6_lower h = some v ∧ f_X7_lower h = some v := by
  obtain ⟨_, _, _, _, _, s6, _⟩ := S
  exact ⟨h.2.1 16 1, rfl, by unfold f_X7_lower; rw [s6.2]⟩
theorem q_finding {h : MH} (S : Sim h) : ∃ v, f_X6_finding h = some v ∧ f_X7_finding h = some v := by
  obtain ⟨_, _, _, _, _, _, s7, _⟩ := S
  exact ⟨h.1 0 10, rfl, by unfold f_X7_finding; rw [s7.1]⟩
theorem q_findings {h : MH} (S : Sim h) (x : Int32) : ∃ v, f_X6_findings h x = some v ∧ f_X7_findings h x = some v := by
  obtain ⟨_, _, _, _, _, _, s7, _⟩ := S
  unfold f_X6_findings f_X7_findings
  rw [btw_if, mIn, bd_s]
  cases q : btw x 1 5 with
  | false => exact ⟨-1, by rw [if_neg (by decide)], by rw [if_neg (by decide)]⟩
  | true =>
    obtain ⟨m, h1, h5, rfl⟩ := btw_N (a := 1) (b := 5) (by decide) (by decide) q
    refine ⟨h.1 17 m, ?_, ?_⟩
    · rw [if_pos rfl, ix_n (by omega) (by decide), gd_t, tn_n (by omega)]
    · rw [if_pos rfl, ix_n (by omega) (by decide), gd_t, tn_n (by omega), s7.2 m h1 h5]
