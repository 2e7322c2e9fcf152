def Inv (_ _ : Nat → Nat → Int32) : Prop := True
theorem inv0 : Inv initX initM := trivial
theorem sp_write {σ τ : Nat → Nat → Int32} (h : Inv σ τ) (x1 : Int32) (x2 : Int64) : ∃ (r : Int32) (σ2 : Nat → Nat → Int32) (τ2 : Nat → Nat → Int32), f_X4_write σ x1 x2 = some (r, σ2) ∧ f_X5_write τ x1 x2 = some (r, τ2) ∧ Inv σ2 τ2 := sorry
theorem sp_wipe {σ τ : Nat → Nat → Int32} (h : Inv σ τ) : ∃ (r : Int32) (σ2 : Nat → Nat → Int32) (τ2 : Nat → Nat → Int32), f_X4_wipe σ = (r, σ2) ∧ f_X5_wipe τ = (r, τ2) ∧ Inv σ2 τ2 := sorry
theorem sp_fault {σ τ : Nat → Nat → Int32} (h : Inv σ τ) : ∃ (r : Int32) (τ2 : Nat → Nat → Int32), f_X4_fault σ = some r ∧ f_X5_fault τ = some (r, τ2) ∧ Inv σ τ2 := sorry
theorem sp_ferry {σ τ : Nat → Nat → Int32} (h : Inv σ τ) : ∃ (r : Int32) (σ2 : Nat → Nat → Int32) (τ2 : Nat → Nat → Int32), f_X4_ferry σ = some (r, σ2) ∧ f_X5_ferry τ = some (r, τ2) ∧ Inv σ2 τ2 := sorry
theorem sp_boat {σ τ : Nat → Nat → Int32} (h : Inv σ τ) (x1 : Int32) : ∃ (r : Int32), f_X4_boat σ x1 = r ∧ f_X5_boat τ x1 = some r ∧ Inv σ τ := sorry
theorem sp_person {σ τ : Nat → Nat → Int32} (h : Inv σ τ) (x1 : Int32) (x2 : Int32) : ∃ (r : Int32), f_X4_person σ x1 x2 = some r ∧ f_X5_person τ x1 x2 = some r ∧ Inv σ τ := sorry
theorem sp_gain {σ τ : Nat → Nat → Int32} (h : Inv σ τ) (x1 : Int32) (x2 : Int32) : ∃ (r : Int32) (σ2 : Nat → Nat → Int32) (τ2 : Nat → Nat → Int32), f_X4_gain σ x1 x2 = some (r, σ2) ∧ f_X5_gain τ x1 x2 = some (r, τ2) ∧ Inv σ2 τ2 := sorry
theorem sp_minutes {σ τ : Nat → Nat → Int32} (h : Inv σ τ) (x1 : Int32) : ∃ (r : Int32) (σ2 : Nat → Nat → Int32) (τ2 : Nat → Nat → Int32), f_X4_minutes σ x1 = (r, σ2) ∧ f_X5_minutes τ x1 = (r, τ2) ∧ Inv σ2 τ2 := sorry
theorem sp_lay {σ τ : Nat → Nat → Int32} (h : Inv σ τ) (x1 : Int32) (x2 : Int32) : ∃ (r : Int32) (σ2 : Nat → Nat → Int32) (τ2 : Nat → Nat → Int32), f_X4_lay σ x1 x2 = some (r, σ2) ∧ f_X5_lay τ x1 x2 = some (r, τ2) ∧ Inv σ2 τ2 := sorry
theorem sp_unlay {σ τ : Nat → Nat → Int32} (h : Inv σ τ) (x1 : Int32) : ∃ (r : Int32) (σ2 : Nat → Nat → Int32) (τ2 : Nat → Nat → Int32), f_X4_unlay σ x1 = some (r, σ2) ∧ f_X5_unlay τ x1 = some (r, τ2) ∧ Inv σ2 τ2 := sorry
theorem sp_weighs {σ τ : Nat → Nat → Int32} (h : Inv σ τ) (x1 : Int32) (x2 : Int32) : ∃ (r : Int32), f_X4_weighs σ x1 x2 = some r ∧ f_X5_weighs τ x1 x2 = some r ∧ Inv σ τ := sorry
theorem sp_off {σ τ : Nat → Nat → Int32} (h : Inv σ τ) (x1 : Int32) : ∃ (r : Int32), f_X4_off σ x1 = some r ∧ f_X5_off τ x1 = some r ∧ Inv σ τ := sorry
theorem sp_leave {σ τ : Nat → Nat → Int32} (h : Inv σ τ) : ∃ (r : Int32) (σ2 : Nat → Nat → Int32) (τ2 : Nat → Nat → Int32), f_X4_leave σ = some (r, σ2) ∧ f_X5_leave τ = some (r, τ2) ∧ Inv σ2 τ2 := sorry
theorem sp_back {σ τ : Nat → Nat → Int32} (h : Inv σ τ) : ∃ (r : Int32) (σ2 : Nat → Nat → Int32) (τ2 : Nat → Nat → Int32), f_X4_back σ = (r, σ2) ∧ f_X5_back τ = some (r, τ2) ∧ Inv σ2 τ2 := sorry
theorem sp_left {σ τ : Nat → Nat → Int32} (h : Inv σ τ) (x1 : Int32) (x2 : Int32) : ∃ (r : Int32), f_X4_left σ x1 x2 = some r ∧ f_X5_left τ x1 x2 = some r ∧ Inv σ τ := sorry
theorem sp_best {σ τ : Nat → Nat → Int32} (h : Inv σ τ) : ∃ (r : Int32) (σ2 : Nat → Nat → Int32) (τ2 : Nat → Nat → Int32), f_X4_best σ = some (r, σ2) ∧ f_X5_best τ = some (r, τ2) ∧ Inv σ2 τ2 := sorry
theorem sp_bestAt {σ τ : Nat → Nat → Int32} (h : Inv σ τ) (x1 : Int32) : ∃ (r : Int32) (σ2 : Nat → Nat → Int32) (τ2 : Nat → Nat → Int32), f_X4_bestAt σ x1 = some (r, σ2) ∧ f_X5_bestAt τ x1 = some (r, τ2) ∧ Inv σ2 τ2 := sorry
theorem sp_worth {σ τ : Nat → Nat → Int32} (h : Inv σ τ) (x1 : Int32) : ∃ (r : Int32) (σ2 : Nat → Nat → Int32) (τ2 : Nat → Nat → Int32), f_X4_worth σ x1 = some (r, σ2) ∧ f_X5_worth τ x1 = some (r, τ2) ∧ Inv σ2 τ2 := sorry
theorem sp_makes {σ τ : Nat → Nat → Int32} (h : Inv σ τ) (x1 : Int32) : ∃ (r : Int32) (σ2 : Nat → Nat → Int32) (τ2 : Nat → Nat → Int32), f_X4_makes σ x1 = some (r, σ2) ∧ f_X5_makes τ x1 = some (r, τ2) ∧ Inv σ2 τ2 := sorry
theorem sp_bestMakes {σ τ : Nat → Nat → Int32} (h : Inv σ τ) : ∃ (r : Int32) (σ2 : Nat → Nat → Int32) (τ2 : Nat → Nat → Int32), f_X4_bestMakes σ = some (r, σ2) ∧ f_X5_bestMakes τ = some (r, τ2) ∧ Inv σ2 τ2 := sorry
theorem sp_sets {σ τ : Nat → Nat → Int32} (h : Inv σ τ) : ∃ (r : Int32) (σ2 : Nat → Nat → Int32) (τ2 : Nat → Nat → Int32), f_X4_sets σ = some (r, σ2) ∧ f_X5_sets τ = some (r, τ2) ∧ Inv σ2 τ2 := sorry
theorem sp_crossings {σ τ : Nat → Nat → Int32} (h : Inv σ τ) (x1 : Int32) : ∃ (r : Int32) (σ2 : Nat → Nat → Int32) (τ2 : Nat → Nat → Int32), f_X4_crossings σ x1 = some (r, σ2) ∧ f_X5_crossings τ x1 = some (r, τ2) ∧ Inv σ2 τ2 := sorry
theorem sp_all {σ τ : Nat → Nat → Int32} (h : Inv σ τ) : ∃ (r : Int32) (σ2 : Nat → Nat → Int32) (τ2 : Nat → Nat → Int32), f_X4_all σ = some (r, σ2) ∧ f_X5_all τ = some (r, τ2) ∧ Inv σ2 τ2 := sorry
theorem sp_rule {σ τ : Nat → Nat → Int32} (h : Inv σ τ) : ∃ (r : Int32) (τ2 : Nat → Nat → Int32), f_X4_rule σ = some r ∧ f_X5_rule τ = some (r, τ2) ∧ Inv σ τ2 := sorry
theorem sp_ruleAt {σ τ : Nat → Nat → Int32} (h : Inv σ τ) (x1 : Int32) : ∃ (r : Int32) (τ2 : Nat → Nat → Int32), f_X4_ruleAt σ x1 = some r ∧ f_X5_ruleAt τ x1 = some (r, τ2) ∧ Inv σ τ2 := sorry
theorem sp_claim {σ τ : Nat → Nat → Int32} (h : Inv σ τ) (x1 : Int32) (x2 : Int32) : ∃ (r : Int32) (σ2 : Nat → Nat → Int32) (τ2 : Nat → Nat → Int32), f_X4_claim σ x1 x2 = some (r, σ2) ∧ f_X5_claim τ x1 x2 = some (r, τ2) ∧ Inv σ2 τ2 := sorry
theorem sp_fits {σ τ : Nat → Nat → Int32} (h : Inv σ τ) : ∃ (r : Int32), f_X4_fits σ = some r ∧ f_X5_fits τ = some r ∧ Inv σ τ := sorry
theorem sp_liars {σ τ : Nat → Nat → Int32} (h : Inv σ τ) : ∃ (r : Int32) (σ2 : Nat → Nat → Int32) (τ2 : Nat → Nat → Int32), f_X4_liars σ = some (r, σ2) ∧ f_X5_liars τ = some (r, τ2) ∧ Inv σ2 τ2 := sorry
theorem sp_mayWeigh {σ τ : Nat → Nat → Int32} (h : Inv σ τ) (x1 : Int32) : ∃ (r : Int32) (σ2 : Nat → Nat → Int32) (τ2 : Nat → Nat → Int32), f_X4_mayWeigh σ x1 = some (r, σ2) ∧ f_X5_mayWeigh τ x1 = some (r, τ2) ∧ Inv σ2 τ2 := sorry
theorem sp_keep {σ τ : Nat → Nat → Int32} (h : Inv σ τ) (x1 : Int32) : ∃ (r : Int32) (σ2 : Nat → Nat → Int32) (τ2 : Nat → Nat → Int32), f_X4_keep σ x1 = some (r, σ2) ∧ f_X5_keep τ x1 = some (r, τ2) ∧ Inv σ2 τ2 := sorry
theorem sp_again {σ τ : Nat → Nat → Int32} (h : Inv σ τ) (x1 : Int32) : ∃ (r : Int32) (σ2 : Nat → Nat → Int32) (τ2 : Nat → Nat → Int32), f_X4_again σ x1 = some (r, σ2) ∧ f_X5_again τ x1 = some (r, τ2) ∧ Inv σ2 τ2 := sorry
theorem sp_count {σ τ : Nat → Nat → Int32} (h : Inv σ τ) (x1 : Int32) : ∃ (r : Int32), f_X4_count σ x1 = some r ∧ f_X5_count τ x1 = some r ∧ Inv σ τ := sorry
