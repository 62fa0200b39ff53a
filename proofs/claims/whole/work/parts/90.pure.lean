/-- of the two programs alone, no machine -/
theorem pu_all : ∃ (R : Nat → sw_St → sw_St → Prop) (σ1 : sw_St) (r1 : Int32 × sw_St), sw_Step R ∧ f_X0_reset sw_σB 3 2 1 3 = some σ1 ∧ (∀ k, 43 < k → σ1 k = fun _ => 0) ∧ f_X7_begin sw_σM 3 2 1 3 = some r1 ∧ R 0 σ1 r1.2 := by
  have hok : okB 3 2 1 3 := by decide
  obtain ⟨σ1, e1, h1, k1⟩ := wp_kg (x_reset (y := sw_σM) 3 2 1 3 own_B) (k_X0_reset (kX_r sw_σB))
  obtain ⟨r1, e2, h2, k2⟩ := wp_kg (m_begin (y := sw_σM) 3 2 1 3) (k_X7_begin (kM_r sw_σM))
  rw [if_pos hok] at h2
  have hz : ∀ k, 43 < k → σ1 k = fun _ => 0 := fun k hk => by rw [k1 k hk, far_B k hk]
  refine ⟨RN, σ1, r1, rn_step, e1, hz, e2, ⟨s0 sw_σM 3 2 1 3, Inv_s0 hok.1 hok.2.1, h1, h2.2⟩, ⟨0, fun _ => 0, ⟨?_, by omega, fun i hi => by omega, fun i hi => by omega, fun _ _ => rfl⟩, ⟨?_, by omega, fun i hi => by omega, fun i hi => by omega, fun _ _ => rfl⟩⟩, kM_W k2 wl_M⟩
  · rw [hz 44 (by decide)]
    rfl
  · rw [k2.2.2.2.1]
    rfl
