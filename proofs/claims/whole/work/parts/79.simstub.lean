/-! stubs -/
def Rel (c m : St) : Prop := True
theorem sim_type (a0 a1 : Int32) {c m : St} (h : Rel c m) : ∃ (r : Int32) (c1 : St) (m1 : St), fX10_type a0 a1 c = some (r, c1) ∧ fX11_type a0 a1 m = some (r, m1) ∧ Rel c1 m1 := by sorry
theorem sim_wipe (a0 : Int32) {c m : St} (h : Rel c m) : ∃ (r : Int32) (c1 : St) (m1 : St), fX10_wipe a0 c = some (r, c1) ∧ fX11_wipe a0 m = some (r, m1) ∧ Rel c1 m1 := by sorry
theorem sim_undo (a0 : Int32) {c m : St} (h : Rel c m) : ∃ (r : Int32) (c1 : St) (m1 : St), fX10_undo a0 c = some (r, c1) ∧ fX11_undo a0 m = some (r, m1) ∧ Rel c1 m1 := by sorry
theorem sim_fault (a0 : Int32) {c m : St} (h : Rel c m) : ∃ (r : Int32) (m1 : St), fX10_fault a0 c = some r ∧ fX11_fault a0 m = some (r, m1) ∧ Rel c m1 := by sorry
theorem sim_part (a0 a1 : Int32) {c m : St} (h : Rel c m) : ∃ (r : Int32) (m1 : St), fX10_part a0 a1 c = some r ∧ fX11_part_ a0 a1 m = some (r, m1) ∧ Rel c m1 := by sorry
theorem sim_goers (a0 : Int32) {c m : St} (h : Rel c m) : ∃ (r : Int32) (c1 : St) (m1 : St), fX10_goers a0 c = some (r, c1) ∧ fX11_goers a0 m = some (r, m1) ∧ Rel c1 m1 := by sorry
theorem sim_lamp (a0 a1 : Int32) {c m : St} (h : Rel c m) : ∃ (r : Int32) (c1 : St) (m1 : St), fX10_lamp a0 a1 c = some (r, c1) ∧ fX11_lamp a0 a1 m = some (r, m1) ∧ Rel c1 m1 := by sorry
theorem sim_read (a0 : Int32) {c m : St} (h : Rel c m) : ∃ (r : Int32) (c1 : St) (m1 : St), fX10_read a0 c = some (r, c1) ∧ fX11_read a0 m = some (r, m1) ∧ Rel c1 m1 := by sorry
theorem sim_far (a0 a1 : Int32) {c m : St} (h : Rel c m) : ∃ (r : Int64) (c1 : St) (m1 : St), fX10_far a0 a1 c = some (r, c1) ∧ fX11_far a0 a1 m = some (r, m1) ∧ Rel c1 m1 := by sorry
theorem sim_safe (a0 a1 : Int32) {c m : St} (h : Rel c m) : ∃ (r : Int64) (c1 : St) (m1 : St), fX10_safe a0 a1 c = some (r, c1) ∧ fX11_safe a0 a1 m = some (r, m1) ∧ Rel c1 m1 := by sorry
theorem sim_rule (a0 a1 a2 : Int32) {c m : St} (h : Rel c m) : ∃ (r : Int64) (c1 : St) (m1 : St), fX10_rule a0 a1 a2 c = some (r, c1) ∧ fX11_rule a0 a1 a2 m = some (r, m1) ∧ Rel c1 m1 := by sorry
theorem sim_point (a0 : Int32) {c m : St} (h : Rel c m) : ∃ (r : Int64) (c1 : St) (m1 : St), fX10_point a0 c = some (r, c1) ∧ fX11_point a0 m = some (r, m1) ∧ Rel c1 m1 := by sorry
theorem sim_judged {c m : St} (h : Rel c m) : ∃ (r : Int32) (c1 : St) (m1 : St), fX10_judged c = some (r, c1) ∧ fX11_judged m = some (r, m1) ∧ Rel c1 m1 := by sorry
theorem sim_state (a0 a1 : Int32) {c m : St} (h : Rel c m) : ∃ (r : Int32) (c1 : St) (m1 : St), fX10_state a0 a1 c = some (r, c1) ∧ fX11_state a0 a1 m = some (r, m1) ∧ Rel c1 m1 := by sorry
theorem sim_left (a0 a1 : Int32) {c m : St} (h : Rel c m) : ∃ (r : Int32) (c1 : St) (m1 : St), fX10_left a0 a1 c = some (r, c1) ∧ fX11_left a0 a1 m = some (r, m1) ∧ Rel c1 m1 := by sorry
theorem sim_home {c m : St} (h : Rel c m) : ∃ (r : Int32) (c1 : St) (m1 : St), fX10_home c = some (r, c1) ∧ fX11_home m = some (r, m1) ∧ Rel c1 m1 := by sorry
theorem sim_unlit (a0 a1 a2 : Int32) {c m : St} (h : Rel c m) : ∃ (r : Int32) (c1 : St) (m1 : St), fX10_unlit a0 a1 a2 c = some (r, c1) ∧ fX11_unlit a0 a1 a2 m = some (r, m1) ∧ Rel c1 m1 := by sorry
theorem sim_help (a0 a1 a2 : Int32) {c m : St} (h : Rel c m) : ∃ (r : Int64) (c1 : St), fX10_help a0 a1 a2 c = some (r, c1) ∧ fX11_help a0 a1 a2 = some r ∧ Rel c1 m := by sorry
theorem sim_least (a0 a1 : Int32) {c m : St} (h : Rel c m) : ∃ (r : Int32) (c1 : St), fX10_least a0 a1 c = some (r, c1) ∧ fX11_least a0 a1 = some r ∧ Rel c1 m := by sorry
theorem sim_side (a0 a1 : Int32) {c m : St} (h : Rel c m) : ∃ (r : Int32) (c1 : St) (m1 : St), fX10_side a0 a1 c = some (r, c1) ∧ fX11_side a0 a1 m = some (r, m1) ∧ Rel c1 m1 := by sorry
theorem sim_gone {c m : St} (h : Rel c m) : ∃ (r : Int32) (c1 : St) (m1 : St), fX10_gone c = some (r, c1) ∧ fX11_gone m = some (r, m1) ∧ Rel c1 m1 := by sorry
theorem sim_first (a0 : Int32) {c m : St} (h : Rel c m) : ∃ (r : Int32) (m1 : St), fX10_first a0 c = some r ∧ fX11_first a0 m = some (r, m1) ∧ Rel c m1 := by sorry
theorem sim_mean (a0 : Int32) {c m : St} (h : Rel c m) : ∃ (r : Int64) (c1 : St) (m1 : St), fX10_mean a0 c = some (r, c1) ∧ fX11_mean a0 m = some (r, m1) ∧ Rel c1 m1 := by sorry
theorem sim_can (a0 a1 a2 a3 : Int32) {c m : St} (h : Rel c m) : ∃ (r : Int32) (c1 : St) (m1 : St), fX10_can a0 a1 a2 a3 c = some (r, c1) ∧ fX11_can a0 a1 a2 a3 m = some (r, m1) ∧ Rel c1 m1 := by sorry
theorem sim_forget {c m : St} (h : Rel c m) : ∃ (r : Int32) (c1 : St) (m1 : St), fX10_forget c = some (r, c1) ∧ fX11_forget m = some (r, m1) ∧ Rel c1 m1 := by sorry
theorem sim_turned {c m : St} (h : Rel c m) : ∃ (r : Int32) (m1 : St), fX10_turned c = some r ∧ fX11_turned m = some (r, m1) ∧ Rel c m1 := by sorry
theorem sim_sheet (a0 a1 a2 : Int32) {c m : St} (h : Rel c m) : ∃ (r : Int32) (c1 : St) (m1 : St), fX10_sheet a0 a1 a2 c = some (r, c1) ∧ fX11_sheet a0 a1 a2 m = some (r, m1) ∧ Rel c1 m1 := by sorry
theorem sim_lose (a0 : Int32) {c m : St} (h : Rel c m) : ∃ (r : Int32) (c1 : St) (m1 : St), fX10_lose a0 c = some (r, c1) ∧ fX11_lose a0 m = some (r, m1) ∧ Rel c1 m1 := by sorry
theorem sim_lay (a0 a1 a2 a3 : Int32) {c m : St} (h : Rel c m) : ∃ (r : Int32) (c1 : St) (m1 : St), fX10_lay a0 a1 a2 a3 c = some (r, c1) ∧ fX11_lay a0 a1 a2 a3 m = some (r, m1) ∧ Rel c1 m1 := by sorry
theorem sim_get (a0 a1 a2 : Int32) {c m : St} (h : Rel c m) : ∃ (r : Int32) (c1 : St) (m1 : St), fX10_get a0 a1 a2 c = some (r, c1) ∧ fX11_get a0 a1 a2 m = some (r, m1) ∧ Rel c1 m1 := by sorry
theorem sim_copy (a0 a1 a2 a3 a4 : Int32) {c m : St} (h : Rel c m) : ∃ (r : Int32) (c1 : St) (m1 : St), fX10_copy a0 a1 a2 a3 a4 c = some (r, c1) ∧ fX11_copy a0 a1 a2 a3 a4 m = some (r, m1) ∧ Rel c1 m1 := by sorry
theorem sim_write (a0 : Int32) {c m : St} (h : Rel c m) : ∃ (r : Int32) (c1 : St) (m1 : St), fX10_write a0 c = some (r, c1) ∧ fX11_write a0 m = some (r, m1) ∧ Rel c1 m1 := by sorry
theorem sim_count (a0 : Int32) {c m : St} (h : Rel c m) : ∃ (r : Int32) (m1 : St), fX10_count a0 c = some r ∧ fX11_count a0 m = some (r, m1) ∧ Rel c m1 := by sorry
theorem sim_digest {c m : St} (h : Rel c m) : ∃ (r : Int64) (c1 : St) (m1 : St), fX10_digest c = some (r, c1) ∧ fX11_digest m = some (r, m1) ∧ Rel c1 m1 := by sorry
theorem rel0 : Rel cst0 mst0 := by sorry
