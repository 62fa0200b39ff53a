/-- what is left to show: of the two programs alone, no machine -/
theorem pu_all : ∃ (R : Nat → sw_St → sw_St → Prop) (σ1 : sw_St) (r1 : Int32 × sw_St), sw_Step R ∧ f_X0_reset sw_σB 3 2 1 3 = some σ1 ∧ (∀ k, 43 < k → σ1 k = fun _ => 0) ∧ f_X7_begin sw_σM 3 2 1 3 = some r1 ∧ R 0 σ1 r1.2 := sorry
