def sv0 : Sv := (([], 0), (0, 0, 0), fun _ => (ring0, 0))
def dk0 : Dk := ([], ((0, 0, 0, [], [], []), none), sv0)
def vI (q i : Nat) (T1 : xY) (I1 : xI) (N1 : xN) : Prop := (T1 q = some (.inr 7) ∧ I1 q = (fun _ => 0) ∧ N1 q 0 = q + 1 ∧ N1 q 1 = q + 83 ∧ N1 q 2 = q + 84 ∧ N1 q 3 = q + 96 ∧ T1 (q + 83) = some (.inl (6, 10))) ∧ StAt T1 I1 N1 (q + 1) [] 0 ∧ MAt T1 I1 N1 (q + 84) 2 (0, 0, 0, [], [], []) none ∧ BAt T1 I1 N1 (q + 96) 2040 [] ∧ ∀ k, k < i → N1 (q + 83) k = q + 98 + 26 * k ∧ PAt T1 I1 N1 (q + 98 + 26 * k) ring0 0
section XMk3
variable {Γ : xG} {E : xE} {T T' : xY} {I I' : xI} {N N' : xN} {q d i : Nat}
theorem vI.mv (h : vI q i T I N) (hk : ∀ a, q ≤ a → a < q + 98 + 26 * i → T' a = T a ∧ I' a = I a ∧ N' a = N a) : vI q i T' I' N' := by
  obtain ⟨⟨a1, a2, a3, a4, a5, a6, a7⟩, b1, b2, b3, c1⟩ := h
  have k0 := hk q (by omega) (by omega)
  have k83 := hk (q + 83) (by omega) (by omega)
  exact ⟨⟨by rw [k0.1]; exact a1, by rw [k0.2.1]; exact a2, by rw [k0.2.2]; exact a3, by rw [k0.2.2]; exact a4, by rw [k0.2.2]; exact a5, by rw [k0.2.2]; exact a6, by rw [k83.1]; exact a7⟩, b1.mv0 (fun a h1 h2 => hk a (by omega) (by omega)), b2.mv0 (fun a h1 h2 => hk a (by omega) (by omega)), b3.mv (fun a h1 h2 => hk a (by omega) (by omega)), fun k h => ⟨by rw [k83.2.2]; exact (c1 k h).1, (c1 k h).2.mv (fun a h1 h2 => hk a (by omega) (by omega))⟩⟩
theorem vI.at (h : vI q 10 T I N) : SvAt T I N q sv0 := by
  obtain ⟨⟨a1, a2, a3, a4, a5, a6, a7⟩, b1, b2, b3, c1⟩ := h
  exact ⟨⟨_, _, 0, ⟨a1, a3, a4, a5, a6, a7, fun k hk => (c1 k hk).1⟩, by rw [a2], b1, ⟨_, b2⟩, b3⟩, ⟨by rw [a2]; rfl, by rw [a2]; rfl, by rw [a2]; rfl⟩, fun k hk => (c1 k hk).2⟩
theorem l_serverI (D : xD Γ E mX7_init 4 357 76569) (hq : 0 < q) : ∀ (d i : Nat) (T1 : xY) (I1 : xI) (N1 : xN), i + d = 10 → Ag q T I N T1 I1 N1 → vI q i T1 I1 N1 →
    V Γ E (xQ Γ E (InP T I N q 358 (fun T' I' N' => vI q 10 T' I' N')) 357 76569) (q + 98 + 26 * i) T1 I1 N1 (97 + 26 * i) (42469 + 3410 * i) 52 (xlv [some (.inr (.inr q)), some (.inl (i : Int))]) []
  | 0, i, T1, I1, N1, hi, g0, h => by
    obtain rfl : i = 10 := by omega
    refine V_run D [] 55 rfl trivial ?_
    refine V_igt D 77 rfl rfl (by omega) (by omega) (fun q1 => ?_) (fun q1 => absurd q1 (by omega))
    exact V_vret D rfl rfl ⟨rfl, by omega, g0, h⟩
  | d + 1, i, T1, I1, N1, hi, g0, h => by
    obtain ⟨⟨a1, a2, a3, a4, a5, a6, a7⟩, b1, b2, b3, c1⟩ := _root_.id h
    refine V_run D [] 55 rfl trivial ?_
    refine V_igt D 77 rfl rfl (by omega) (by omega) (fun q1 => absurd q1 (by omega)) (fun q1 => ?_)
    refine V_run D [] 63 rfl ⟨a1, trivial⟩ ?_
    rw [a4]
    refine V_newO D 3 2 rfl rfl ckX7_X3 (by decide) (by omega) ?_
    refine V_run D [] 67 rfl trivial ?_
    refine V_callI (av := []) (st := [.inr (.inr (q + 98 + 26 * i)), .inl (i : Int), .inr (.inr (q + 83))]) D mwX3_init rfl lkX7_X3_init (by omega) (s_Peer_init (by omega) up_at up_at) rfl (by omega) (fun r z' T2 I2 N2 P => ?_)
    obtain ⟨rfl, rfl, g1, O1⟩ := P
    have kp : ∀ a, a < q + 98 + 26 * i → T2 a = T1 a ∧ I2 a = I1 a ∧ N2 a = N1 a := fun a ha => by
      have h9 := g1 a ha
      rw [up_ne (by omega), up_ne (by omega), up_ne (by omega)] at h9
      exact h9
    have h2 := h.mv (fun a h1 h2 => kp a h2)
    obtain ⟨⟨a1', a2', a3', a4', a5', a6', a7'⟩, b1', b2', b3', c1'⟩ := h2
    refine V_run D [52] 52 rfl ⟨⟨6, by omega, ⟨10, a7', by omega, by omega⟩, O1.1⟩, trivial⟩ ?_
    rw [Int.toNat_natCast]
    refine V_loc [some (.inr (.inr q)), some (.inl ((i + 1 : Nat) : Int))] rfl ?_
    have e1 : q + 98 + 26 * i + 26 = q + 98 + 26 * (i + 1) := by omega
    have e2 : 97 + 26 * i + 1 + 25 = 97 + 26 * (i + 1) := by omega
    have e3 : 42469 + 3410 * i + 2 + 3408 = 42469 + 3410 * (i + 1) := by omega
    rw [e1, e2, e3]
    have kN : ∀ a, a ≠ q + 83 → xup N2 (q + 83) i (q + 98 + 26 * i) a = N2 a := fun a ha => xup_ne ha
    refine l_serverI D hq d (i + 1) T2 I2 _ (by omega) ((g0.trans (fun a ha => kp a (by omega))).putN (by omega)) ⟨⟨a1', a2', by rw [kN _ (by omega)]; exact a3', by rw [kN _ (by omega)]; exact a4', by rw [kN _ (by omega)]; exact a5', by rw [kN _ (by omega)]; exact a6', a7'⟩, b1'.kept (fun a h1 h2 => ⟨rfl, kN a (by omega)⟩), b2'.kept (fun a h1 h2 => ⟨rfl, kN a (by omega)⟩), b3'.kept rfl rfl (kN _ (by omega)), fun k hk => ?_⟩
    by_cases hki : k = i
    · subst hki
      exact ⟨xup_f, O1.kept (fun a h1 h2 => ⟨rfl, kN a (by omega)⟩)⟩
    · exact ⟨by rw [xup_j hki]; exact (c1' k (by omega)).1, (c1' k (by omega)).2.kept (fun a h1 h2 => ⟨rfl, kN a (by omega)⟩)⟩
theorem s_Server_init (hq : 0 < q) (hT : T q = some (.inr 7)) (hI : I q = fun _ => 0) : Spec mX7_init 4 [.inr (.inr q)] (q + 1) T I N 357 76569 (InP T I N q 358 (fun T' I' N' => vI q 10 T' I' N')) := by
  refine Spec_of okX7_init (by decide) (by decide) (Nat.le_of_ble_eq_true rfl) fun Γ E D => ?_
  refine V_run D [] 1 rfl trivial ?_
  refine V_obj D rfl lkX7_obj hq rfl ?_
  refine V_run D [] 5 rfl trivial ?_
  refine V_newO D 8 3 rfl rfl ckX7_X8 (by decide) (by omega) ?_
  refine V_run D [] 9 rfl trivial ?_
  refine V_callI (av := []) (st := [.inr (.inr (q + 1)), .inr (.inr q)]) D mwX8_init rfl lkX7_X8_init (by omega) (s_Store_init (by omega) up_at up_at) rfl (by omega) (fun r z' T1 I1 N1 P => ?_)
  obtain ⟨rfl, rfl, g1, S1⟩ := P
  have h0 := g1 q (by omega)
  rw [up_ne (by omega), up_ne (by omega), up_ne (by omega)] at h0
  have hT1 : T1 q = some (.inr 7) := by rw [h0.1]; exact hT
  refine V_putF (c := 7) (f := 0) D rfl rfl rfl rfl rfl rfl hT1 ?_
  refine V_run D [] 18 rfl trivial ?_
  refine V_newq D 6 rfl ckX7_X3 (by omega) (by omega) (by decide) ?_
  have hT3 : va_up T1 (q + 1 + 82) (some (.inl (6, (10 : Int).toNat))) q = some (.inr 7) := by rw [up_ne (by omega)]; exact hT1
  refine V_putF (c := 7) (f := 1) D rfl rfl rfl rfl rfl rfl hT3 ?_
  have g0 : Ag q T I N T1 I1 (xup N1 q 0 (q + 1)) := ((Ag.rf.new (by omega)).trans (g1.lo (by omega))).putN (Nat.le_refl _)
  have g3 : Ag q T I N _ _ _ := (g0.new (z := q + 1 + 82) (t := some (.inl (6, (10 : Int).toNat))) (i := fun _ => 0) (n := fun _ => 0) (by omega)).putN (a := q) (f := 1) (w := q + 1 + 82) (Nat.le_refl _)
  have n3 : ∀ a, q + 1 ≤ a → a < q + 83 → va_up T1 (q + 1 + 82) (some (.inl (6, (10 : Int).toNat))) a = T1 a ∧ va_up I1 (q + 1 + 82) (fun _ => 0) a = I1 a ∧ xup (va_up (xup N1 q 0 (q + 1)) (q + 1 + 82) (fun _ => 0)) q 1 (q + 1 + 82) a = N1 a := fun a h1 h2 => by
    rw [xup_ne (by omega), up_ne (by omega), up_ne (by omega), up_ne (by omega), xup_ne (by omega)]; exact ⟨rfl, rfl, rfl⟩
  have q3 : va_up I1 (q + 1 + 82) (fun _ => 0) q = I q ∧ xup (va_up (xup N1 q 0 (q + 1)) (q + 1 + 82) (fun _ => 0)) q 1 (q + 1 + 82) q 0 = q + 1 ∧ xup (va_up (xup N1 q 0 (q + 1)) (q + 1 + 82) (fun _ => 0)) q 1 (q + 1 + 82) q 1 = q + 83 ∧ va_up T1 (q + 1 + 82) (some (.inl (6, (10 : Int).toNat))) (q + 83) = some (.inl (6, 10)) := by
    refine ⟨?_, ?_, xup_f, up_at⟩
    · rw [up_ne (by omega), h0.2.1]
    · rw [xup_j (by decide), up_ne (by omega), xup_f]
  have S3 := S1.mv0 (fun a h1 h2 => n3 a h1 (by omega))
  generalize hTa : va_up T1 (q + 1 + 82) (some (.inl (6, (10 : Int).toNat))) = Ta at *
  generalize hIa : va_up I1 (q + 1 + 82) (fun _ => 0) = Ia at *
  generalize hNa : xup (va_up (xup N1 q 0 (q + 1)) (q + 1 + 82) (fun _ => 0)) q 1 (q + 1 + 82) = Na at *
  refine V_run D [] 25 rfl trivial ?_
  refine V_newO D 1 8 rfl rfl ckX7_X1 (by decide) (by decide) ?_
  refine V_run D [] 30 rfl trivial ?_
  refine V_callI (av := [.inl ((2 : Nat) : Int)]) (st := [.inr (.inr (q + 1 + 82 + 1)), .inr (.inr q)]) D mwX1_init rfl lkX7_X1_init (by omega) (s_Message_init (by omega) (by omega) up_at up_at up_at) rfl (by decide) (fun r z' T4 I4 N4 P => ?_)
  obtain ⟨rfl, rfl, g4, M4⟩ := P
  have kp4 : ∀ a, a < q + 84 → T4 a = Ta a ∧ I4 a = Ia a ∧ N4 a = Na a := fun a ha => by
    have h9 := g4 a ha
    rw [up_ne (by omega), up_ne (by omega), up_ne (by omega)] at h9
    exact h9
  have h4 := kp4 q (by omega)
  have hT4 : T4 q = some (.inr 7) := by rw [h4.1]; exact hT3
  refine V_putF (c := 7) (f := 2) D rfl rfl rfl rfl rfl rfl hT4 ?_
  refine V_run D [] 37 rfl trivial ?_
  refine V_newO D 0 2 rfl rfl ckX7_X0 (by decide) (by decide) ?_
  refine V_run D [] 44 rfl trivial ?_
  refine V_callI (av := [.inl ((2040 : Nat) : Int)]) (st := [.inr (.inr (q + 1 + 82 + 1 + (6 + 3 * 2))), .inr (.inr q)]) D mwX0_init rfl lkX7_X0_init (by omega) (s_BytesN (by omega) (by omega) up_at up_at) rfl (by decide) (fun r z' T5 I5 N5 P => ?_)
  obtain ⟨rfl, rfl, g5, B5⟩ := P
  have kp5 : ∀ a, a < q + 96 → T5 a = T4 a ∧ I5 a = I4 a ∧ N5 a = xup N4 q 2 (q + 1 + 82 + 1) a := fun a ha => by
    have h9 := g5 a (by omega)
    rw [up_ne (by omega), up_ne (by omega), up_ne (by omega)] at h9
    exact h9
  have h5 := kp5 q (by omega)
  have hT5 : T5 q = some (.inr 7) := by rw [h5.1]; exact hT4
  refine V_putF (c := 7) (f := 3) D rfl rfl rfl rfl rfl rfl hT5 ?_
  refine V_run D [52] 52 rfl trivial ?_
  refine V_loc [some (.inr (.inr q)), some (.inl ((0 : Nat) : Int))] rfl ?_
  refine V_wide (k := 97 + 26 * 0) (n := 42469 + 3410 * 0) (by decide) (by decide) ?_
  have kpx : ∀ a, a < q + 96 → a ≠ q → xup N5 q 3 (q + 1 + 82 + 1 + (6 + 3 * 2)) a = N4 a := fun a h1 h2 => by rw [xup_ne h2, (kp5 a h1).2.2, xup_ne h2]
  refine l_serverI D hq 10 0 T5 I5 _ (by omega) (fun a ha => ?_) ⟨⟨hT5, ?_, ?_, ?_, ?_, ?_, ?_⟩, S3.mv0 (fun a h1 h2 => ?_), M4.mv0 (fun a h1 h2 => ?_), B5.kept rfl rfl (xup_ne (by omega)), fun k hk => by omega⟩
  · have h6 := g3 a ha
    rw [(kp5 a (by omega)).1, (kp5 a (by omega)).2.1, kpx a (by omega) (by omega), (kp4 a (by omega)).1, (kp4 a (by omega)).2.1, (kp4 a (by omega)).2.2]
    exact h6
  · rw [h5.2.1, h4.2.1, q3.1]; exact hI
  · rw [xup_j (by decide), h5.2.2, xup_j (by decide), h4.2.2]; exact q3.2.1
  · rw [xup_j (by decide), h5.2.2, xup_j (by decide), h4.2.2]; exact q3.2.2.1
  · rw [xup_j (by decide), h5.2.2, xup_f]
  · rw [xup_f]
  · rw [(kp5 _ (by omega)).1, (kp4 _ (by omega)).1]; exact q3.2.2.2
  · rw [(kp5 a (by omega)).1, (kp5 a (by omega)).2.1, kpx a (by omega) (by omega)]; exact kp4 a (by omega)
  · rw [(kp5 a (by omega)).1, (kp5 a (by omega)).2.1, kpx a (by omega) (by omega)]; exact ⟨rfl, rfl, rfl⟩
end XMk3
