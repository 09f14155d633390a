/-! ===== every fact, at once ===== -/
theorem facts_all : ∃ Inv : IVT, Facts Inv ∧ Inv 0 (fun _ => 0) St0 (fun _ => St0) (fun _ => none) (fun _ => 0) (fun _ => (fun _ => 0, fun _ => 0)) 0 0 St0 :=
  ⟨Iv, ⟨fc_B, fc_M, fc_machine, fc_row, fc_history, fc_copy, fc_begin, fc_answer, fc_alter, fc_status, fc_answered, fc_call, fc_about, fc_ahead, fc_judge, fc_first, fc_orders, fc_least, fc_part, fc_fills, fc_fill, fc_apart, fc_rules, fc_say, fc_check⟩, iv_start⟩
