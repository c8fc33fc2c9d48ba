section XMk4
variable {Γ : xG} {E : xE} {T T' : xY} {I I' : xI} {N N' : xN} {q d i : Nat}
/-- what was made lies as before: on a stretch -/
theorem s_Desk_init (hd : 0 < d) (hT : T d = some (.inr 9)) : Spec mX9_init 5 [.inr (.inr d)] (d + 1) T I N 493 95621 (InP T I N d 494 (fun T' I' N' => DkAt T' I' N' d dk0)) := by
  refine Spec_of okX9_init (by decide) (by decide) (Nat.le_of_ble_eq_true rfl) fun Γ E D => ?_
  refine V_run D [] 1 rfl trivial ?_
  refine V_obj D rfl lkX9_obj hd rfl ?_
  refine V_run D [] 5 rfl trivial ?_
  refine V_newO D 0 2 rfl rfl ckX9_X0 (by decide) (by decide) ?_
  refine V_run D [] 12 rfl trivial ?_
  refine V_callI (av := [.inl ((2000 : Nat) : Int)]) (st := [.inr (.inr (d + 1)), .inr (.inr d)]) D mwX0_init rfl lkX9_X0_init (by omega) (s_BytesN (by omega) (by omega) up_at up_at) rfl (by decide) (fun r z' T1 I1 N1 P => ?_)
  obtain ⟨rfl, rfl, g1, B1⟩ := P
  have h0 := g1 d (by omega)
  rw [up_ne (by omega), up_ne (by omega), up_ne (by omega)] at h0
  have hT1 : T1 d = some (.inr 9) := by rw [h0.1]; exact hT
  have A1 : Ag d T I N T1 I1 N1 := (Ag.rf.new (by omega)).trans (g1.lo (by omega))
  refine V_putF (c := 9) (f := 0) D rfl rfl rfl rfl rfl rfl hT1 ?_
  refine V_run D [] 19 rfl trivial ?_
  refine V_newO D 4 2 rfl rfl ckX9_X4 (by decide) (by decide) ?_
  refine V_run D [] 23 rfl trivial ?_
  refine V_callN (av := []) (st := [.inr (.inr (d + 1 + 2)), .inr (.inr d)]) D mwX4_init rfl lkX9_X4_init (by omega) (s_Reader_init (by omega)) rfl (by decide) (fun r z' T2 I2 N2 P => ?_)
  obtain ⟨rfl, rfl, rfl, rfl, rfl⟩ := P
  have hT2 : va_up T1 (d + 1 + 2) (some (.inr 4)) d = some (.inr 9) := by rw [up_ne (by omega)]; exact hT1
  refine V_putF (c := 9) (f := 1) D rfl rfl rfl rfl rfl rfl hT2 ?_
  have A2 : Ag d T I N (va_up T1 (d + 1 + 2) (some (.inr 4))) (va_up I1 (d + 1 + 2) (fun _ => 0)) (xup (va_up (xup N1 d 0 (d + 1)) (d + 1 + 2) (fun _ => 0)) d 1 (d + 1 + 2)) := ((A1.putN (Nat.le_refl _)).new (by omega)).putN (Nat.le_refl _)
  have B2 : BAt (va_up T1 (d + 1 + 2) (some (.inr 4))) (va_up I1 (d + 1 + 2) (fun _ => 0)) (xup (va_up (xup N1 d 0 (d + 1)) (d + 1 + 2) (fun _ => 0)) d 1 (d + 1 + 2)) (d + 1) 2000 [] := B1.mv (fun a h1 h2 => by rw [xup_ne (by omega), up_ne (by omega), up_ne (by omega), up_ne (by omega), xup_ne (by omega)]; exact ⟨rfl, rfl, rfl⟩)
  have q2 : xup (va_up (xup N1 d 0 (d + 1)) (d + 1 + 2) (fun _ => 0)) d 1 (d + 1 + 2) d 0 = d + 1 ∧ xup (va_up (xup N1 d 0 (d + 1)) (d + 1 + 2) (fun _ => 0)) d 1 (d + 1 + 2) d 1 = d + 3 ∧ va_up T1 (d + 1 + 2) (some (.inr 4)) (d + 3) = some (.inr 4) := ⟨by rw [xup_j (by decide), up_ne (by omega), xup_f], xup_f, up_at⟩
  generalize hTa : va_up T1 (d + 1 + 2) (some (.inr 4)) = Ta at *
  generalize hIa : va_up I1 (d + 1 + 2) (fun _ => 0) = Ia at *
  generalize hNa : xup (va_up (xup N1 d 0 (d + 1)) (d + 1 + 2) (fun _ => 0)) d 1 (d + 1 + 2) = Na at *
  refine V_run D [] 30 rfl trivial ?_
  refine V_newO D 7 8 rfl rfl ckX9_X7 (by decide) (by decide) ?_
  refine V_run D [] 34 rfl trivial ?_
  refine V_callI (av := []) (st := [.inr (.inr (d + 1 + 2 + 1)), .inr (.inr d)]) D mwX7_init rfl lkX9_X7_init (by omega) (s_Server_init (by omega) up_at up_at) rfl (by decide) (fun r z' T4 I4 N4 P => ?_)
  obtain ⟨rfl, rfl, g4, S4⟩ := P
  have kp4 : ∀ a, a < d + 4 → T4 a = Ta a ∧ I4 a = Ia a ∧ N4 a = Na a := fun a ha => by
    have h9 := g4 a ha
    rw [up_ne (by omega), up_ne (by omega), up_ne (by omega)] at h9
    exact h9
  have h4 := kp4 d (by omega)
  have hT4 : T4 d = some (.inr 9) := by rw [h4.1]; exact hT2
  refine V_putF (c := 9) (f := 2) D rfl rfl rfl rfl rfl rfl hT4 ?_
  refine V_run D [] 41 rfl trivial ?_
  refine V_newO D 1 8 rfl rfl ckX9_X1 (by decide) (by decide) ?_
  refine V_run D [] 47 rfl trivial ?_
  refine V_callI (av := [.inl ((20 : Nat) : Int)]) (st := [.inr (.inr (d + 1 + 2 + 1 + 358)), .inr (.inr d)]) D mwX1_init rfl lkX9_X1_init (by omega) (s_Message_init (by omega) (by omega) up_at up_at up_at) rfl (by decide) (fun r z' T5 I5 N5 P => ?_)
  obtain ⟨rfl, rfl, g5, M5⟩ := P
  have kp5 : ∀ a, a < d + 362 → T5 a = T4 a ∧ I5 a = I4 a ∧ N5 a = xup N4 d 2 (d + 1 + 2 + 1) a := fun a ha => by
    have h9 := g5 a (by omega)
    rw [up_ne (by omega), up_ne (by omega), up_ne (by omega)] at h9
    exact h9
  have h5 := kp5 d (by omega)
  have hT5 : T5 d = some (.inr 9) := by rw [h5.1]; exact hT4
  refine V_run D [] 54 rfl ⟨hT5, trivial⟩ ?_
  refine V_newO D 1 8 rfl rfl ckX9_X1 (by decide) (by decide) ?_
  refine V_run D [] 60 rfl trivial ?_
  refine V_callI (av := [.inl ((20 : Nat) : Int)]) (st := [.inr (.inr (d + 1 + 2 + 1 + 358 + (6 + 3 * 20))), .inr (.inr d)]) D mwX1_init rfl lkX9_X1_init (by omega) (s_Message_init (by omega) (by omega) up_at up_at up_at) rfl (by decide) (fun r z' T6 I6 N6 P => ?_)
  obtain ⟨rfl, rfl, g6, M6⟩ := P
  have kp6 : ∀ a, a < d + 428 → T6 a = T5 a ∧ I6 a = I5 a ∧ N6 a = xup N5 d 3 (d + 1 + 2 + 1 + 358) a := fun a ha => by
    have h9 := g6 a (by omega)
    rw [up_ne (by omega), up_ne (by omega), up_ne (by omega)] at h9
    exact h9
  have h6 := kp6 d (by omega)
  have hT6 : T6 d = some (.inr 9) := by rw [h6.1]; exact hT5
  refine V_run D [] 66 rfl ⟨hT6, trivial⟩ ?_
  refine V_wide (k := 493) (n := 95621) (by decide) (by decide) ?_
  have kx5 : ∀ a, a < d + 362 → a ≠ d → N5 a = N4 a := fun a h1 h2 => by rw [(kp5 a h1).2.2, xup_ne h2]
  have kx6 : ∀ a, a < d + 428 → a ≠ d → xup N6 d 4 (d + 1 + 2 + 1 + 358 + (6 + 3 * 20)) a = N5 a := fun a h1 h2 => by rw [xup_ne h2, (kp6 a h1).2.2, xup_ne h2]
  refine V_vret D rfl rfl ⟨rfl, by omega, fun a ha => ?_, ⟨hT6, ?_, ?_, ?_, ?_⟩, B2.mv (fun a h1 h2 => ?_), (S4.mv (fun a h1 h2 => ?_)).at, d + 362, d + 428, ⟨?_, ?_, Or.inl ⟨rfl, rfl⟩⟩, M5.mv0 (fun a h1 h2 => ?_), _, _, M6.mv0 (fun a h1 h2 => ?_)⟩
  · have h9 := A2 a ha
    rw [(kp6 a (by omega)).1, (kp6 a (by omega)).2.1, kx6 a (by omega) (by omega), (kp5 a (by omega)).1, (kp5 a (by omega)).2.1, kx5 a (by omega) (by omega), (kp4 a (by omega)).1, (kp4 a (by omega)).2.1, (kp4 a (by omega)).2.2]
    exact h9
  · rw [xup_j (by decide), h6.2.2, xup_j (by decide), h5.2.2, xup_j (by decide), h4.2.2]; exact q2.1
  · rw [xup_j (by decide), h6.2.2, xup_j (by decide), h5.2.2, xup_j (by decide), h4.2.2]; exact q2.2.1
  · rw [xup_j (by decide), h6.2.2, xup_j (by decide), h5.2.2, xup_f]
  · rw [(kp6 _ (by omega)).1, (kp5 _ (by omega)).1, (kp4 _ (by omega)).1]; exact q2.2.2
  · rw [(kp6 a (by omega)).1, (kp6 a (by omega)).2.1, kx6 a (by omega) (by omega), (kp5 a (by omega)).1, (kp5 a (by omega)).2.1, kx5 a (by omega) (by omega)]; exact kp4 a (by omega)
  · rw [(kp6 a (by omega)).1, (kp6 a (by omega)).2.1, kx6 a (by omega) (by omega), (kp5 a (by omega)).1, (kp5 a (by omega)).2.1, kx5 a (by omega) (by omega)]; exact ⟨rfl, rfl, rfl⟩
  · rw [xup_j (by decide), h6.2.2, xup_f]
  · rw [xup_f]
  · rw [(kp6 a (by omega)).1, (kp6 a (by omega)).2.1, kx6 a (by omega) (by omega)]; exact ⟨rfl, rfl, rfl⟩
  · rw [xup_ne (by omega)]; exact ⟨rfl, rfl, rfl⟩
end XMk4
