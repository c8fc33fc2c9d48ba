/-- Bytes.clear -/
theorem tt_clear {z : Nat} {T : xY} {I : xI} {N : xN} {b : Nat} (hT : T b = some (.inr 0)) : Spec mX0_clear 0 [.inr (.inr b)] z T I N 0 0 (fun r z' T' I' N' => r = none ∧ z' = z ∧ T' = T ∧ I' = xup I b 1 0 ∧ N' = N) := by
  refine Spec_of okX0_clear (by decide) (by decide) (Nat.le_of_ble_eq_true rfl) fun Γ E D => ?_
  refine V_run D [] 5 rfl ⟨hT, trivial⟩ ?_
  exact V_vret D rfl rfl ⟨rfl, rfl, rfl, rfl, rfl⟩
theorem tt_at {z : Nat} {T : xY} {I : xI} {N : xN} {b : Nat} {i : Int} (hT : T b = some (.inr 0)) (hi : xIn i) (hs : xIn (I b 1)) : Spec mX0_at 0 [.inr (.inr b), .inl i] z T I N 0 0 (fun r z' T' I' N' => r = none ∧ z' = z ∧ T' = T ∧ I' = xup I b 1 0 ∧ N' = N) := by
  refine Spec_of okX0_at (by decide) (by decide) (Nat.le_of_ble_eq_true rfl) fun Γ E D => ?_
  refine V_run D [] 1 rfl trivial ?_
  refine V_lt D 25 rfl rfl hi (fun c1 => ?_) (fun c1 => ?_)
  · refine V_run D [] 26 rfl trivial ?_
    sorry
  · refine V_run D [] 9 rfl ⟨hT, trivial⟩ ?_
    refine V_ige D 25 rfl rfl hi hs (fun c2 => ?_) (fun c2 => ?_)
    · sorry
    · refine V_run D [] 26 rfl ?_ ?_
      · trace_state
        sorry
      · trace_state
        sorry
