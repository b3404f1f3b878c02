theorem q_fault (X : XxT) {R : RdT} {M : MoT} (h : Rd_fault R = Mo_fault M) : ∃ r, f_X11_fault X R = some r ∧ f_X12_fault M = some (r, Mo_s_thrown M 0) := by
  unfold f_X11_fault f_X12_fault
  rw [zl_eq]
  exact ⟨_, rfl, by rw [h]; rfl⟩
theorem q_least (X : XxT) {S : TrT} {M : MoT} (h : Tr_least S = Mo_turnedLeast M) : ∃ r, f_X11_least X S = some r ∧ f_X12_least_ M = some (r, Mo_s_thrown M 0) := by
  unfold f_X11_least f_X12_least_
  rw [zl_eq]
  exact ⟨_, rfl, by rw [h]; rfl⟩
theorem q_greatest (X : XxT) {S : TrT} {M : MoT} (h : Tr_greatest S = Mo_turnedGreatest M) : ∃ r, f_X11_greatest X S = some r ∧ f_X12_greatest M = some (r, Mo_s_thrown M 0) := by
  unfold f_X11_greatest f_X12_greatest
  rw [zl_eq]
  exact ⟨_, rfl, by rw [h]; rfl⟩
theorem q_cutting (X : XxT) {S : CtT} {M : MoT} (h : Ct_latest S = Mo_cutting M) : ∃ r, f_X11_cutting X S = some r ∧ f_X12_cutting M = some (r, Mo_s_thrown M 0) := by
  unfold f_X11_cutting f_X12_cutting
  rw [zl_eq]
  exact ⟨_, rfl, by rw [h]; rfl⟩
