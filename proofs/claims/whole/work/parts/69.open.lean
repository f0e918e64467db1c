def Rel (σ : SC) (τ : SR) : Prop := σ = σ ∧ τ = τ
theorem s_start : ∃ σ0, f_X7_renew (fun _ _ => 0) = some σ0 ∧ Rel σ0 ((fun _ _ => 0), 0) := sorry
theorem s_block {σ : SC} {τ : SR} (h : Rel σ τ) (a0 : Int32) : ∃ (r : Int32) (σ' : SC) (τ' : SR), f_X7_block σ a0 = some (r, σ') ∧ f_X8_block τ a0 = some (r, τ') ∧ Rel σ' τ' := sorry
theorem s_open {σ : SC} {τ : SR} (h : Rel σ τ) (a0 : Int32) : ∃ (r : Int32) (σ' : SC) (τ' : SR), f_X7_open σ a0 = some (r, σ') ∧ f_X8_open τ a0 = some (r, τ') ∧ Rel σ' τ' := sorry
theorem s_letter {σ : SC} {τ : SR} (h : Rel σ τ) (a0 a1 : Int32) : ∃ (r : Int32) (σ' : SC) (τ' : SR), f_X7_letter σ a0 a1 = some (r, σ') ∧ f_X8_letter τ a0 a1 = some (r, τ') ∧ Rel σ' τ' := sorry
theorem s_put {σ : SC} {τ : SR} (h : Rel σ τ) (a0 a1 : Int32) : ∃ (r : Int32) (σ' : SC) (τ' : SR), f_X7_put σ a0 a1 = some (r, σ') ∧ f_X8_put τ a0 a1 = some (r, τ') ∧ Rel σ' τ' := sorry
theorem s_wipe {σ : SC} {τ : SR} (h : Rel σ τ) : ∃ (r : Int32) (σ' : SC) (τ' : SR), f_X7_wipe σ = some (r, σ') ∧ f_X8_wipe τ = some (r, τ') ∧ Rel σ' τ' := sorry
theorem s_turn {σ : SC} {τ : SR} (h : Rel σ τ) : ∃ (r : Int32) (σ' : SC) (τ' : SR), f_X7_turn σ = some (r, σ') ∧ f_X8_turn τ = some (r, τ') ∧ Rel σ' τ' := sorry
theorem s_add {σ : SC} {τ : SR} (h : Rel σ τ) (a0 : Int32) : ∃ (r : Int32) (σ' : SC) (τ' : SR), f_X7_add σ a0 = some (r, σ') ∧ f_X8_add τ a0 = some (r, τ') ∧ Rel σ' τ' := sorry
theorem s_strike {σ : SC} {τ : SR} (h : Rel σ τ) (a0 : Int32) : ∃ (r : Int32) (σ' : SC) (τ' : SR), f_X7_strike σ a0 = some (r, σ') ∧ f_X8_strike τ a0 = some (r, τ') ∧ Rel σ' τ' := sorry
theorem s_drift {σ : SC} {τ : SR} (h : Rel σ τ) (a0 a1 : Int32) : ∃ (r : Int32) (σ' : SC) (τ' : SR), f_X7_drift σ a0 a1 = some (r, σ') ∧ f_X8_drift τ a0 a1 = some (r, τ') ∧ Rel σ' τ' := sorry
theorem s_undo {σ : SC} {τ : SR} (h : Rel σ τ) : ∃ (r : Int32) (σ' : SC) (τ' : SR), f_X7_undo σ = some (r, σ') ∧ f_X8_undo τ = some (r, τ') ∧ Rel σ' τ' := sorry
theorem s_told {σ : SC} {τ : SR} (h : Rel σ τ) (a0 : Int32) : ∃ (r : Int32) (σ' : SC) (τ' : SR), f_X7_told σ a0 = some (r, σ') ∧ f_X8_told τ a0 = some (r, τ') ∧ Rel σ' τ' := sorry
theorem s_cell {σ : SC} {τ : SR} (h : Rel σ τ) (a0 a1 : Int32) : ∃ (r : Int32) (σ' : SC) (τ' : SR), f_X7_cell σ a0 a1 = some r ∧ f_X8_cell τ a0 a1 = some (r, τ') ∧ σ' = σ ∧ Rel σ' τ' := sorry
theorem s_slot {σ : SC} {τ : SR} (h : Rel σ τ) (a0 a1 : Int32) : ∃ (r : Int32) (σ' : SC) (τ' : SR), f_X7_slot σ a0 a1 = some (r, σ') ∧ f_X8_slot τ a0 a1 = some (r, τ') ∧ Rel σ' τ' := sorry
theorem s_word {σ : SC} {τ : SR} (h : Rel σ τ) (a0 a1 : Int32) : ∃ (r : Int32) (σ' : SC) (τ' : SR), f_X7_word σ a0 a1 = some r ∧ f_X8_word τ a0 a1 = some (r, τ') ∧ σ' = σ ∧ Rel σ' τ' := sorry
theorem s_find {σ : SC} {τ : SR} (h : Rel σ τ) (a0 : Int32) : ∃ (r : Int32) (σ' : SC) (τ' : SR), f_X7_find σ a0 = some r ∧ f_X8_find τ a0 = some r ∧ σ' = σ ∧ τ' = τ ∧ Rel σ' τ' := sorry
theorem s_odds {σ : SC} {τ : SR} (h : Rel σ τ) (a0 a1 a2 a3 : Int32) : ∃ (r : Int32) (σ' : SC) (τ' : SR), f_X7_odds σ a0 a1 a2 a3 = some r ∧ f_X8_odds τ a0 a1 a2 a3 = some (r, τ') ∧ σ' = σ ∧ Rel σ' τ' := sorry
theorem s_with {σ : SC} {τ : SR} (h : Rel σ τ) (a0 a1 : Int32) : ∃ (r : Int32) (σ' : SC) (τ' : SR), f_X7_with σ a0 a1 = some (r, σ') ∧ f_X8_with τ a0 a1 = some (r, τ') ∧ Rel σ' τ' := sorry
theorem s_keep {σ : SC} {τ : SR} (h : Rel σ τ) (a0 : Int32) : ∃ (r : Int32) (σ' : SC) (τ' : SR), f_X7_keep σ a0 = some (r, σ') ∧ f_X8_keep τ a0 = some (r, τ') ∧ Rel σ' τ' := sorry
theorem s_goBack {σ : SC} {τ : SR} (h : Rel σ τ) (a0 : Int32) : ∃ (r : Int32) (σ' : SC) (τ' : SR), f_X7_goBack σ a0 = some (r, σ') ∧ f_X8_goBack τ a0 = some (r, τ') ∧ Rel σ' τ' := sorry
