section XMk2
variable {Γ : xG} {E : xE} {T : xY} {I : xI} {N : xN} {m q most : Nat}
def mI (m most : Nat) (T : xY) (I : xI) (N : xN) (i : Nat) (T1 : xY) (I1 : xI) (N1 : xN) : Prop := Ag m T I N T1 I1 N1 ∧ (T1 m = some (.inr 1) ∧ I1 m = (fun _ => 0) ∧ N1 m 0 = m + 1 ∧ N1 m 1 = m + 3 ∧ N1 m 2 = m + 5 ∧ N1 m 4 = 0 ∧ T1 (m + 5) = some (.inl (3, most))) ∧ BAt T1 I1 N1 (m + 1) 8 [] ∧ BAt T1 I1 N1 (m + 3) 400 [] ∧ ∀ k, k < i → N1 (m + 5) k = m + 6 + 3 * k ∧ OAt T1 I1 N1 (m + 6 + 3 * k) 0 []
theorem l_msgI (D : xD Γ E mX1_init 3 (5 + 3 * most) (412 + 405 * most)) (hm : 0 < m) (hmost : most ≤ 20) : ∀ (d i : Nat) (T1 : xY) (I1 : xI) (N1 : xN), i + d = most → mI m most T I N i T1 I1 N1 →
    V Γ E (xQ Γ E (InP T I N m (6 + 3 * most) (fun T' I' N' => MAt T' I' N' m most (0, 0, 0, [], [], []) none)) (5 + 3 * most) (412 + 405 * most)) (m + 6 + 3 * i) T1 I1 N1 (5 + 3 * i) (412 + most + 404 * i) 41 (xlv [some (.inr (.inr m)), some (.inl (most : Int)), some (.inl (i : Int))]) []
  | 0, i, T1, I1, N1, hi, h => by
    obtain ⟨g0, ⟨a1, a2, a3, a4, a5, a6, a7⟩, b1, b2, c1⟩ := h
    obtain rfl : i = most := by omega
    refine V_run D [] 43 rfl trivial ?_
    refine V_ige D 65 rfl rfl (by omega) (by omega) (fun q1 => ?_) (fun q1 => absurd (Int.le_refl _) q1)
    refine V_wide (k := 5 + 3 * i) (n := 412 + 405 * i) (by omega) (by omega) ?_
    refine V_vret D rfl rfl ⟨rfl, by omega, g0, ⟨a1, a3, a4, a5, a7, hmost, by rw [a2]; rfl, by simp⟩, ⟨by rw [a2], by rw [a2], by rw [a2]⟩, b1, b2, ⟨fun j => j, fun j hj => ⟨hj, (c1 j hj).1⟩, fun i j _ _ h => h, fun k hk => ⟨0, [], (c1 k hk).2⟩, fun j hj => by simp at hj⟩, a6⟩
  | d + 1, i, T1, I1, N1, hi, h => by
    obtain ⟨g0, ⟨a1, a2, a3, a4, a5, a6, a7⟩, b1, b2, c1⟩ := h
    refine V_run D [] 43 rfl trivial ?_
    refine V_ige D 65 rfl rfl (by omega) (by omega) (fun q1 => absurd q1 (by omega)) (fun q1 => ?_)
    refine V_run D [] 51 rfl ⟨a1, trivial⟩ ?_
    rw [a5]
    refine V_newO D 2 2 rfl rfl ckX1_X2 (by decide) (by omega) ?_
    refine V_run D [] 55 rfl trivial ?_
    refine V_callN (av := []) (st := [.inr (.inr (m + 6 + 3 * i)), .inl (i : Int), .inr (.inr (m + 5))]) D mwX2_init rfl lkX1_X2_init (by omega) (s_Option_init (by omega) up_at up_at) rfl (by omega) (fun r z' T2 I2 N2 P => ?_)
    obtain ⟨rfl, rfl, g1, O1⟩ := P
    have kp : ∀ a, a < m + 6 + 3 * i → T2 a = T1 a ∧ I2 a = I1 a ∧ N2 a = N1 a := fun a ha => by
      have h9 := g1 a ha
      rw [up_ne (by omega), up_ne (by omega), up_ne (by omega)] at h9
      exact h9
    have k0 := kp m (by omega)
    have k5 := kp (m + 5) (by omega)
    refine V_run D [41] 41 rfl ⟨⟨3, by omega, ⟨most, by rw [k5.1]; exact a7, by omega, by omega⟩, O1.1⟩, trivial⟩ ?_
    rw [Int.toNat_natCast]
    refine V_loc [some (.inr (.inr m)), some (.inl (most : Int)), some (.inl ((i + 1 : Nat) : Int))] rfl ?_
    have e1 : m + 6 + 3 * i + 3 = m + 6 + 3 * (i + 1) := by omega
    have e2 : 5 + 3 * i + 1 + 2 = 5 + 3 * (i + 1) := by omega
    have e3 : 412 + most + 404 * i + 2 + 402 = 412 + most + 404 * (i + 1) := by omega
    rw [e1, e2, e3]
    have kN : ∀ a, a ≠ m + 5 → xup N2 (m + 5) i (m + 6 + 3 * i) a = N2 a := fun a ha => xup_ne ha
    refine l_msgI D hm hmost d (i + 1) T2 I2 _ (by omega) ⟨(g0.trans (fun a ha => kp a (by omega))).putN (by omega), ⟨by rw [k0.1]; exact a1, by rw [k0.2.1]; exact a2, by rw [kN _ (by omega), k0.2.2]; exact a3, by rw [kN _ (by omega), k0.2.2]; exact a4, by rw [kN _ (by omega), k0.2.2]; exact a5, by rw [kN _ (by omega), k0.2.2]; exact a6, by rw [k5.1]; exact a7⟩, b1.mv (fun a h1 h2 => by rw [kN _ (by omega)]; exact kp a (by omega)), b2.mv (fun a h1 h2 => by rw [kN _ (by omega)]; exact kp a (by omega)), fun k hk => ?_⟩
    by_cases hki : k = i
    · subst hki
      exact ⟨xup_f, O1.kept (fun a h1 h2 => ⟨rfl, kN a (by omega)⟩)⟩
    · refine ⟨by rw [xup_j hki, k5.2.2]; exact (c1 k (by omega)).1, (c1 k (by omega)).2.mv (fun a h1 h2 => by rw [kN _ (by omega)]; exact kp a (by omega))⟩
theorem s_Message_init (hm : 0 < m) (hmost : most ≤ 20) (hT : T m = some (.inr 1)) (hI : I m = fun _ => 0) (hN : N m = fun _ => 0) : Spec mX1_init 3 [.inr (.inr m), .inl (most : Int)] (m + 1) T I N (5 + 3 * most) (412 + 405 * most) (InP T I N m (6 + 3 * most) (fun T' I' N' => MAt T' I' N' m most (0, 0, 0, [], [], []) none)) := by
  refine Spec_of okX1_init (by decide) (by decide) (Nat.le_of_ble_eq_true rfl) fun Γ E D => ?_
  refine V_run D [] 1 rfl trivial ?_
  refine V_obj D rfl lkX1_obj hm rfl ?_
  refine V_run D [] 5 rfl trivial ?_
  refine V_newO D 0 2 rfl rfl ckX1_X0 (by decide) (by omega) ?_
  refine V_run D [] 11 rfl trivial ?_
  refine V_callI (av := [.inl ((8 : Nat) : Int)]) (st := [.inr (.inr (m + 1)), .inr (.inr m)]) D mwX0_init rfl lkX1_X0_init (by omega) (s_BytesN (by omega) (by omega) up_at up_at) rfl (by omega) (fun r z' T1 I1 N1 P => ?_)
  obtain ⟨rfl, rfl, g1, B1⟩ := P
  have h0 := g1 m (by omega)
  rw [up_ne (by omega), up_ne (by omega), up_ne (by omega)] at h0
  have hT1 : T1 m = some (.inr 1) := by rw [h0.1]; exact hT
  refine V_putF (c := 1) (f := 0) D rfl rfl rfl rfl rfl rfl hT1 ?_
  refine V_run D [] 18 rfl trivial ?_
  refine V_newO D 0 2 rfl rfl ckX1_X0 (by decide) (by omega) ?_
  refine V_run D [] 25 rfl trivial ?_
  refine V_callI (av := [.inl ((400 : Nat) : Int)]) (st := [.inr (.inr (m + 1 + 2)), .inr (.inr m)]) D mwX0_init rfl lkX1_X0_init (by omega) (s_BytesN (by omega) (by omega) up_at up_at) rfl (by omega) (fun r z' T2 I2 N2 P => ?_)
  obtain ⟨rfl, rfl, g2, B2⟩ := P
  have kp2 : ∀ a, a < m + 1 + 2 → T2 a = T1 a ∧ I2 a = I1 a ∧ N2 a = xup N1 m 0 (m + 1) a := fun a ha => by
    have h9 := g2 a ha
    rw [up_ne (by omega), up_ne (by omega), up_ne (by omega)] at h9
    exact h9
  have h2 := kp2 m (by omega)
  have hT2 : T2 m = some (.inr 1) := by rw [h2.1]; exact hT1
  refine V_putF (c := 1) (f := 1) D rfl rfl rfl rfl rfl rfl hT2 ?_
  refine V_run D [] 33 rfl trivial ?_
  refine V_newq D 3 rfl ckX1_X2 (by omega) (by omega) (by omega) ?_
  rw [Int.toNat_natCast]
  have hT3 : va_up T2 (m + 1 + 2 + 2) (some (.inl (3, most))) m = some (.inr 1) := by rw [up_ne (by omega)]; exact hT2
  refine V_putF (c := 1) (f := 2) D rfl rfl rfl rfl rfl rfl hT3 ?_
  refine V_run D [41] 41 rfl trivial ?_
  refine V_loc [some (.inr (.inr m)), some (.inl (most : Int)), some (.inl ((0 : Nat) : Int))] rfl ?_
  refine V_wide (k := 5 + 3 * 0) (n := 412 + most + 404 * 0) (by omega) (by omega) ?_
  have g0 : Ag m T I N T1 I1 (xup N1 m 0 (m + 1)) := ((Ag.rf.new (by omega)).trans (g1.lo (by omega))).putN (Nat.le_refl _)
  have g3 : Ag m T I N T2 I2 (xup N2 m 1 (m + 1 + 2)) := ((g0.new (by omega)).trans (g2.lo (by omega))).putN (Nat.le_refl _)
  refine l_msgI D hm hmost most 0 _ _ _ (by omega) ⟨(g3.new (by omega)).putN (Nat.le_refl _), ⟨hT3, ?_, ?_, ?_, ?_, ?_, up_at⟩, B1.mv (fun a e1 e2 => ?_), B2.mv (fun a e1 e2 => ?_), fun k hk => by omega⟩
  · rw [up_ne (by omega), h2.2.1, h0.2.1]; exact hI
  · rw [xup_j (by decide), up_ne (by omega), xup_j (by decide), h2.2.2, xup_f]
  · rw [xup_j (by decide), up_ne (by omega), xup_f]
  · rw [xup_f]
  · rw [xup_j (by decide), up_ne (by omega), xup_j (by decide), h2.2.2, xup_j (by decide), h0.2.2, hN]
  · rw [xup_ne (by omega), up_ne (by omega), up_ne (by omega), up_ne (by omega), xup_ne (by omega)]
    have h9 := kp2 a (by omega)
    rw [xup_ne (by omega)] at h9
    exact h9
  · rw [xup_ne (by omega), up_ne (by omega), up_ne (by omega), up_ne (by omega), xup_ne (by omega)]
    exact ⟨rfl, rfl, rfl⟩
def pI (q : Nat) (T : xY) (I : xI) (N : xN) (i : Nat) (T1 : xY) (I1 : xI) (N1 : xN) : Prop := Ag q T I N T1 I1 N1 ∧ (T1 q = some (.inr 3) ∧ I1 q = (fun _ => 0) ∧ N1 q 0 = q + 1 ∧ T1 (q + 1) = some (.inl (5, 8))) ∧ ∀ k, k < i → N1 (q + 1) k = q + 2 + 3 * k ∧ SnAt T1 I1 N1 (q + 2 + 3 * k) (-1) []
def ring0 : List Opt := List.replicate 8 (-1, [])
theorem ring0_at {k : Nat} (h : k < 8) : od ring0 k = (-1, []) := by
  rcases (by omega : k = 0 ∨ k = 1 ∨ k = 2 ∨ k = 3 ∨ k = 4 ∨ k = 5 ∨ k = 6 ∨ k = 7) with h | h | h | h | h | h | h | h <;> subst h <;> rfl
theorem l_peerI (D : xD Γ E mX3_init 3 25 3408) (hq : 0 < q) : ∀ (d i : Nat) (T1 : xY) (I1 : xI) (N1 : xN), i + d = 8 → pI q T I N i T1 I1 N1 →
    V Γ E (xQ Γ E (InP T I N q 26 (fun T' I' N' => PAt T' I' N' q ring0 0)) 25 3408) (q + 2 + 3 * i) T1 I1 N1 (1 + 3 * i) (8 + 425 * i) 15 (xlv [some (.inr (.inr q)), some (.inl (i : Int))]) []
  | 0, i, T1, I1, N1, hi, h => by
    obtain ⟨g0, ⟨a1, a2, a3, a7⟩, c1⟩ := h
    obtain rfl : i = 8 := by omega
    refine V_run D [] 18 rfl trivial ?_
    refine V_ige D 40 rfl rfl (by omega) (by omega) (fun q1 => ?_) (fun q1 => absurd (Int.le_refl _) q1)
    refine V_vret D rfl rfl ⟨rfl, by omega, g0, a1, a3, a7, by rw [a2]; rfl, by omega, by unfold ring0; simp, fun k hk => (c1 k hk).1, fun k hk => by rw [ring0_at hk]; exact (c1 k hk).2⟩
  | d + 1, i, T1, I1, N1, hi, h => by
    obtain ⟨g0, ⟨a1, a2, a3, a7⟩, c1⟩ := h
    refine V_run D [] 18 rfl trivial ?_
    refine V_ige D 40 rfl rfl (by omega) (by omega) (fun q1 => absurd q1 (by omega)) (fun q1 => ?_)
    refine V_run D [] 26 rfl ⟨a1, trivial⟩ ?_
    rw [a3]
    refine V_newO D 6 2 rfl rfl ckX3_X6 (by decide) (by omega) ?_
    refine V_run D [] 30 rfl trivial ?_
    refine V_callN (av := []) (st := [.inr (.inr (q + 2 + 3 * i)), .inl (i : Int), .inr (.inr (q + 1))]) D mwX6_init rfl lkX3_X6_init (by omega) (s_Sent_init (by omega) up_at) rfl (by omega) (fun r z' T2 I2 N2 P => ?_)
    obtain ⟨rfl, rfl, g1, O1⟩ := P
    have kp : ∀ a, a < q + 2 + 3 * i → T2 a = T1 a ∧ I2 a = I1 a ∧ N2 a = N1 a := fun a ha => by
      have h9 := g1 a ha
      rw [up_ne (by omega), up_ne (by omega), up_ne (by omega)] at h9
      exact h9
    have k0 := kp q (by omega)
    have k5 := kp (q + 1) (by omega)
    refine V_run D [15] 15 rfl ⟨⟨5, by omega, ⟨8, by rw [k5.1]; exact a7, by omega, by omega⟩, O1.1⟩, trivial⟩ ?_
    rw [Int.toNat_natCast]
    refine V_loc [some (.inr (.inr q)), some (.inl ((i + 1 : Nat) : Int))] rfl ?_
    have e1 : q + 2 + 3 * i + 3 = q + 2 + 3 * (i + 1) := by omega
    have e2 : 1 + 3 * i + 1 + 2 = 1 + 3 * (i + 1) := by omega
    have e3 : 8 + 425 * i + 2 + 423 = 8 + 425 * (i + 1) := by omega
    rw [e1, e2, e3]
    have kN : ∀ a, a ≠ q + 1 → xup N2 (q + 1) i (q + 2 + 3 * i) a = N2 a := fun a ha => xup_ne ha
    refine l_peerI D hq d (i + 1) T2 I2 _ (by omega) ⟨(g0.trans (fun a ha => kp a (by omega))).putN (by omega), ⟨by rw [k0.1]; exact a1, by rw [k0.2.1]; exact a2, by rw [kN _ (by omega), k0.2.2]; exact a3, by rw [k5.1]; exact a7⟩, fun k hk => ?_⟩
    by_cases hki : k = i
    · subst hki
      exact ⟨xup_f, O1.kept (fun a h1 h2 => ⟨rfl, kN a (by omega)⟩)⟩
    · refine ⟨by rw [xup_j hki, k5.2.2]; exact (c1 k (by omega)).1, (c1 k (by omega)).2.mv (fun a h1 h2 => by rw [kN _ (by omega)]; exact kp a (by omega))⟩
theorem s_Peer_init (hq : 0 < q) (hT : T q = some (.inr 3)) (hI : I q = fun _ => 0) : Spec mX3_init 3 [.inr (.inr q)] (q + 1) T I N 25 3408 (InP T I N q 26 (fun T' I' N' => PAt T' I' N' q ring0 0)) := by
  refine Spec_of okX3_init (by decide) (by decide) (Nat.le_of_ble_eq_true rfl) fun Γ E D => ?_
  refine V_run D [] 1 rfl trivial ?_
  refine V_obj D rfl lkX3_obj hq rfl ?_
  refine V_run D [] 7 rfl trivial ?_
  refine V_newq D 5 rfl ckX3_X6 (by omega) (by omega) (by decide) ?_
  have hT3 : va_up T (q + 1) (some (.inl (5, (8 : Int).toNat))) q = some (.inr 3) := by rw [up_ne (by omega)]; exact hT
  refine V_putF (c := 3) (f := 0) D rfl rfl rfl rfl rfl rfl hT3 ?_
  refine V_run D [15] 15 rfl trivial ?_
  refine V_loc [some (.inr (.inr q)), some (.inl ((0 : Nat) : Int))] rfl ?_
  refine V_wide (k := 1 + 3 * 0) (n := 8 + 425 * 0) (by decide) (by decide) ?_
  refine l_peerI D hq 8 0 _ _ _ (by omega) ⟨(Ag.rf.new (by omega)).putN (Nat.le_refl _), ⟨hT3, by rw [up_ne (by omega)]; exact hI, xup_f, up_at⟩, fun k hk => by omega⟩
def sI (q : Nat) (T : xY) (I : xI) (N : xN) (i : Nat) (T1 : xY) (I1 : xI) (N1 : xN) : Prop := Ag q T I N T1 I1 N1 ∧ (T1 q = some (.inr 8) ∧ I1 q = (fun _ => 0) ∧ N1 q 0 = q + 1 ∧ T1 (q + 1) = some (.inl (4, 16))) ∧ ∀ k, k < i → N1 (q + 1) k = q + 2 + 5 * k ∧ RsAny T1 I1 N1 (q + 2 + 5 * k)
theorem l_storeI (D : xD Γ E mX8_init 3 81 39184) (hq : 0 < q) : ∀ (d i : Nat) (T1 : xY) (I1 : xI) (N1 : xN), i + d = 16 → sI q T I N i T1 I1 N1 →
    V Γ E (xQ Γ E (InP T I N q 82 (fun T' I' N' => StAt T' I' N' q [] 0)) 81 39184) (q + 2 + 5 * i) T1 I1 N1 (1 + 5 * i) (16 + 2448 * i) 15 (xlv [some (.inr (.inr q)), some (.inl (i : Int))]) []
  | 0, i, T1, I1, N1, hi, h => by
    obtain ⟨g0, ⟨a1, a2, a3, a7⟩, c1⟩ := h
    obtain rfl : i = 16 := by omega
    refine V_run D [] 18 rfl trivial ?_
    refine V_ige D 40 rfl rfl (by omega) (by omega) (fun q1 => ?_) (fun q1 => absurd (Int.le_refl _) q1)
    refine V_vret D rfl rfl ⟨rfl, by omega, g0, ⟨a1, a3, a7, by rw [a2]; rfl, by simp, by rw [a2]⟩, fun j => j, fun j hj => ⟨hj, (c1 j hj).1⟩, fun _ _ _ _ h => h, fun k hk => (c1 k hk).2, fun j hj => by simp at hj⟩
  | d + 1, i, T1, I1, N1, hi, h => by
    obtain ⟨g0, ⟨a1, a2, a3, a7⟩, c1⟩ := h
    refine V_run D [] 18 rfl trivial ?_
    refine V_ige D 40 rfl rfl (by omega) (by omega) (fun q1 => absurd q1 (by omega)) (fun q1 => ?_)
    refine V_run D [] 26 rfl ⟨a1, trivial⟩ ?_
    rw [a3]
    refine V_newO D 5 4 rfl rfl ckX8_X5 (by decide) (by omega) ?_
    refine V_run D [] 30 rfl trivial ?_
    refine V_callN (av := []) (st := [.inr (.inr (q + 2 + 5 * i)), .inl (i : Int), .inr (.inr (q + 1))]) D mwX5_init rfl lkX8_X5_init (by omega) (s_Resource_init (by omega) up_at) rfl (by omega) (fun r z' T2 I2 N2 P => ?_)
    obtain ⟨rfl, rfl, g1, O1⟩ := P
    have kp : ∀ a, a < q + 2 + 5 * i → T2 a = T1 a ∧ I2 a = I1 a ∧ N2 a = N1 a := fun a ha => by
      have h9 := g1 a ha
      rw [up_ne (by omega), up_ne (by omega), up_ne (by omega)] at h9
      exact h9
    have k0 := kp q (by omega)
    have k5 := kp (q + 1) (by omega)
    refine V_run D [15] 15 rfl ⟨⟨4, by omega, ⟨16, by rw [k5.1]; exact a7, by omega, by omega⟩, O1.1⟩, trivial⟩ ?_
    rw [Int.toNat_natCast]
    refine V_loc [some (.inr (.inr q)), some (.inl ((i + 1 : Nat) : Int))] rfl ?_
    have e1 : q + 2 + 5 * i + 5 = q + 2 + 5 * (i + 1) := by omega
    have e2 : 1 + 5 * i + 1 + 4 = 1 + 5 * (i + 1) := by omega
    have e3 : 16 + 2448 * i + 4 + 2444 = 16 + 2448 * (i + 1) := by omega
    rw [e1, e2, e3]
    have kN : ∀ a, a ≠ q + 1 → xup N2 (q + 1) i (q + 2 + 5 * i) a = N2 a := fun a ha => xup_ne ha
    refine l_storeI D hq d (i + 1) T2 I2 _ (by omega) ⟨(g0.trans (fun a ha => kp a (by omega))).putN (by omega), ⟨by rw [k0.1]; exact a1, by rw [k0.2.1]; exact a2, by rw [kN _ (by omega), k0.2.2]; exact a3, by rw [k5.1]; exact a7⟩, fun k hk => ?_⟩
    by_cases hki : k = i
    · subst hki
      exact ⟨xup_f, O1.kept (fun a h1 h2 => ⟨rfl, kN a (by omega)⟩)⟩
    · refine ⟨by rw [xup_j hki, k5.2.2]; exact (c1 k (by omega)).1, (c1 k (by omega)).2.mv (fun a h1 h2 => by rw [kN _ (by omega)]; exact kp a (by omega))⟩
theorem s_Store_init (hq : 0 < q) (hT : T q = some (.inr 8)) (hI : I q = fun _ => 0) : Spec mX8_init 3 [.inr (.inr q)] (q + 1) T I N 81 39184 (InP T I N q 82 (fun T' I' N' => StAt T' I' N' q [] 0)) := by
  refine Spec_of okX8_init (by decide) (by decide) (Nat.le_of_ble_eq_true rfl) fun Γ E D => ?_
  refine V_run D [] 1 rfl trivial ?_
  refine V_obj D rfl lkX8_obj hq rfl ?_
  refine V_run D [] 7 rfl trivial ?_
  refine V_newq D 4 rfl ckX8_X5 (by omega) (by omega) (by decide) ?_
  have hT3 : va_up T (q + 1) (some (.inl (4, (16 : Int).toNat))) q = some (.inr 8) := by rw [up_ne (by omega)]; exact hT
  refine V_putF (c := 8) (f := 0) D rfl rfl rfl rfl rfl rfl hT3 ?_
  refine V_run D [15] 15 rfl trivial ?_
  refine V_loc [some (.inr (.inr q)), some (.inl ((0 : Nat) : Int))] rfl ?_
  refine V_wide (k := 1 + 5 * 0) (n := 16 + 2448 * 0) (by decide) (by decide) ?_
  refine l_storeI D hq 16 0 _ _ _ (by omega) ⟨(Ag.rf.new (by omega)).putN (Nat.le_refl _), ⟨hT3, by rw [up_ne (by omega)]; exact hI, xup_f, up_at⟩, fun k hk => by omega⟩
end XMk2
