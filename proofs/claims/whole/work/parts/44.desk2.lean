section XDk2
variable {Γ : xG} {E : xE} {M : xM} {z : Nat} {T : xY} {I : xI} {N : xN} {d b room lev mc ms pc : Nat} {x : Dk} {xs : List Int} {lv : xL} {post : xPo} {xp : xXp}
theorem s_dOption {num w n : Int} (h : DkAt T I N d x) (hx : DkOk x) (h1 : xIn num) (h4 : xIn n) : XSpec mX9_option 7 [.inr (.inr d), .inl num, .inr (.inl w), .inl n] z T I N 1 6 (OpP z T I N d rI (dOption x num w n)) (OpX z T I N d cs2 (dOption x num w n)) := by
  obtain ⟨⟨a1, a2, a3, a4, a5⟩, b1, s1, m, ms, ⟨n1, n2, n3⟩, m1, g', lat', m2⟩ := _root_.id h
  refine XSpec_of okX9_option (by decide) (by decide) (Nat.le_of_ble_eq_true rfl) fun Γ E D => ?_
  have bad : ¬ ((0 ≤ num ∧ num ≤ 65535) ∧ 0 ≤ n ∧ n ≤ 8) → ∀ lv, V Γ E (xQX Γ E (OpP z T I N d rI (dOption x num w n)) (OpX z T I N d cs2 (dOption x num w n)) 1 6) z T I N 0 0 19 lv [] := fun hc lv => by
    have e : dOption x num w n = (1, 0, x) := by unfold dOption; rw [if_pos hc]
    rw [e]
    exact V_throw D (47, 51, "java/lang/IllegalArgumentException") (by decide) (65, "number or n is out of its range") (by decide) rfl rfl rfl rfl rfl rfl rfl ⟨by decide, by decide⟩ (fun z' hz => ⟨Nat.succ_ne_zero _, rfl, hz, rfl, RCh.rf, h⟩)
  refine V_run D.1 [] 3 rfl trivial ?_
  refine V_askS (av := [.inl num, .inl 65535]) (st := []) D.1 mwX9_within rfl lkX9_X9_within (s_within h1 (by omega)) rfl ⟨Nat.zero_le _, Nat.zero_le _⟩ ?_
  refine V_eq D.1 19 rfl rfl (b01_in _) (fun q1 => ?_) (fun q1 => ?_)
  · rw [b01_dec0] at q1
    exact bad (fun h => q1 h.1) _
  rw [b01_dec1] at q1
  refine V_run D.1 [] 13 rfl trivial ?_
  refine V_askS (av := [.inl n, .inl 8]) (st := []) D.1 mwX9_within rfl lkX9_X9_within (s_within h4 (by omega)) rfl ⟨Nat.zero_le _, Nat.zero_le _⟩ ?_
  refine V_ne D.1 29 rfl rfl (b01_in _) (fun q4 => ?_) (fun q4 => ?_)
  · rw [b01_dec1] at q4
    refine V_run D.1 [] 34 rfl ⟨a1, trivial⟩ ?_
    rw [n1]
    by_cases hl : x.2.1.1.2.2.2.2.1.length < 20
    · have e : dOption x num w n = (0, (x.2.1.1.2.2.2.2.1.length : Int) + 1, (x.1, ((x.2.1.1.1, x.2.1.1.2.1, x.2.1.1.2.2.1, x.2.1.1.2.2.2.1, inso (ipos num x.2.1.1.2.2.2.2.1 x.2.1.1.2.2.2.2.1.length) (num, lows w n) x.2.1.1.2.2.2.2.1, x.2.1.1.2.2.2.2.2), some (ipos num x.2.1.1.2.2.2.2.1 x.2.1.1.2.2.2.2.1.length)), x.2.2)) := by unfold dOption; rw [if_neg (fun h => h ⟨q1, q4⟩), if_neg (fun h => h hl)]
      rw [e]
      refine V_chV (av := [.inl num]) (st := []) D.1 mwX1_put rfl lkX9_X1_put (s_put m1 hl h1 (hx.1.2.2.2.2.1.xin (by omega))) m1.1.1 rfl ⟨Nat.zero_le _, Nat.zero_le _⟩ (fun r I1 N1 P1 => ?_)
      obtain ⟨rfl, f1, k1⟩ := P1
      generalize hip : ipos num x.2.1.1.2.2.2.2.1 x.2.1.1.2.2.2.2.1.length = p at k1
      have hpl : p ≤ x.2.1.1.2.2.2.2.1.length := by rw [← hip]; exact ipos_le _ _ _
      have hN1 : N1 d 3 = m := by rw [(f1 d (by omega)).2]; exact n1
      have hpl2 : p < (inso p (num, ([] : List Int)) x.2.1.1.2.2.2.2.1).length := by rw [inso_len hpl]; omega
      obtain ⟨o1, o2, o3⟩ := k1.opt (j := p) hpl2
      have e1 : od (inso p (num, ([] : List Int)) x.2.1.1.2.2.2.2.1) p = (num, []) := by rw [inso_at hpl, if_neg (by omega), if_pos rfl]
      obtain ⟨p1, p2, p3, p4⟩ := o1
      dsimp only at p4
      rw [e1] at p4
      refine V_run D.1 [] 41 rfl trivial ?_
      refine V_nonnull D.1 54 rfl rfl (fun q5 => ?_) (fun q5 => absurd q5 (by omega))
      refine V_run D.1 [] 62 rfl ⟨p1, trivial⟩ ?_
      rw [p2]
      have hs := s_addLow (z := z) (w := w) (n := n.toNat) p4 (by omega) (by simp; omega)
      rw [nat_of q4.1] at hs
      refine V_putB (av := [.inr (.inl w), .inl n]) (st := []) D.1 mwX0_addLowFirst rfl lkX9_X0_addLowFirst hs p4.1 rfl ⟨Nat.zero_le _, Nat.zero_le _⟩ (fun I2 e2 d2 => ?_)
      have k2 := k1.setVal hpl2 rfl e2 d2
      dsimp only at k2
      rw [e1] at k2
      have e3 : (inso p (num, ([] : List Int)) x.2.1.1.2.2.2.2.1).set p ((num, ([] : List Int)).1, [] ++ (List.range n.toNat).map (lowb w)) = inso p (num, lows w n) x.2.1.1.2.2.2.2.1 := by
        unfold inso lows
        rw [List.set_append, if_neg (by rw [List.length_take]; omega)]
        have e4 : p - (x.2.1.1.2.2.2.2.1.take p).length = 0 := by rw [List.length_take]; omega
        rw [e4]
        rfl
      rw [e3] at k2
      have R := h.setG (m := m) n1.symm (I' := I2) (N' := N1) (fun a ha => ⟨by rw [e2 a (by omega) (by omega)]; exact (f1 a (by omega)).1, (f1 a (by omega)).2⟩) k2
      have hcnt := k2.1.2.2.2.2.2.2.1
      refine V_run D.1 [] 72 rfl ⟨by rw [hN1]; exact m1.1.1, a1, trivial⟩ ?_
      rw [hN1, hcnt]
      refine V_xiret D rfl rfl ⟨rfl, rfl, rfl, ?_, R⟩
      dsimp only
      rw [inso_len hpl]
      rfl
    · have e : dOption x num w n = (2, 0, x) := by unfold dOption; rw [if_neg (fun h => h ⟨q1, q4⟩), if_pos hl]
      rw [e]
      refine V_askV (av := [.inl num]) (st := []) D.1 mwX1_put rfl lkX9_X1_put (s_putFull m1 hl) m1.1.1 rfl ⟨Nat.zero_le _, Nat.zero_le _⟩ ?_
      refine V_run D.1 [] 41 rfl trivial ?_
      refine V_nonnull D.1 54 rfl rfl (fun q5 => absurd q5 (by omega)) (fun q5 => ?_)
      exact V_throw D (71, 75, "java/lang/IllegalStateException") (by decide) (73, "there are 20 options") (by decide) rfl rfl rfl rfl rfl rfl rfl ⟨by decide, by decide⟩ (fun z' hz => ⟨Nat.succ_ne_zero _, rfl, hz, rfl, RCh.rf, h⟩)
  · rw [b01_dec0] at q4
    exact bad (fun h => q4 h.2) _
theorem s_dLonger {w n : Int} (h : DkAt T I N d x) (h4 : xIn n) : XSpec mX9_longer 7 [.inr (.inr d), .inr (.inl w), .inl n] z T I N 1 6 (OpP z T I N d rI (dLonger x w n)) (OpX z T I N d cs2 (dLonger x w n)) := by
  obtain ⟨⟨a1, a2, a3, a4, a5⟩, b1, s1, m, ms, ⟨n1, n2, n3⟩, m1, g', lat', m2⟩ := _root_.id h
  refine XSpec_of okX9_longer (by decide) (by decide) (Nat.le_of_ble_eq_true rfl) fun Γ E D => ?_
  refine V_run D.1 [] 3 rfl trivial ?_
  refine V_askS (av := [.inl n, .inl 8]) (st := []) D.1 mwX9_within rfl lkX9_X9_within (s_within h4 (by omega)) rfl ⟨Nat.zero_le _, Nat.zero_le _⟩ ?_
  refine V_ne D.1 19 rfl rfl (b01_in _) (fun q4 => ?_) (fun q4 => ?_)
  · rw [b01_dec1] at q4
    have lat1 := m1.2.2.2.2.2
    refine V_run D.1 [] 30 rfl ⟨by rw [n1]; exact m1.1.1, a1, trivial⟩ ?_
    rw [n1]
    unfold dLonger
    rw [if_neg (fun h => h q4)]
    cases hlat : x.2.1.2 with
    | none =>
      rw [hlat] at lat1
      dsimp only at lat1 ⊢
      rw [lat1]
      refine V_null D.1 45 rfl rfl (fun q5 => ?_) (fun q5 => absurd q5 (by omega))
      exact V_throw D (71, 75, "java/lang/IllegalStateException") (by decide) (95, "no option was put, or its value would be too long") (by decide) rfl rfl rfl rfl rfl rfl rfl ⟨by decide, by decide⟩ (fun z' hz => ⟨Nat.succ_ne_zero _, rfl, hz, rfl, RCh.rf, h⟩)
    | some l =>
      rw [hlat] at lat1
      dsimp only at lat1 ⊢
      obtain ⟨l1, l2⟩ := lat1
      obtain ⟨⟨p1, p2, p3, p4⟩, o2, o3⟩ := m1.opt l1
      rw [l2]
      generalize ho : N (m + 5) l = o at p1 p2 p3 p4 o2 o3
      have h5 := p4.2.2.2.2.1
      refine V_null D.1 45 rfl rfl (fun q5 => absurd q5 (by omega)) (fun q5 => ?_)
      refine V_run D.1 [] 39 rfl ⟨p1, trivial⟩ ?_
      rw [p2]
      refine V_askV (av := [.inl n]) (st := []) D.1 mwX0_hasRoom rfl lkX9_X0_hasRoom (s_hasRoom p4 h4) p4.1 rfl ⟨Nat.zero_le _, Nat.zero_le _⟩ ?_
      by_cases hf : ((od x.2.1.1.2.2.2.2.1 l).2.length : Int) + n ≤ 400
      · rw [if_neg (fun h => h hf), if_pos (by omega)]
        refine V_ne D.1 55 rfl rfl (by omega) (fun q6 => ?_) (fun q6 => absurd q6 (by decide))
        refine V_run D.1 [] 62 rfl ⟨p1, trivial⟩ ?_
        rw [p2]
        have hs := s_addLow (z := z) (w := w) (n := n.toNat) p4 (by omega) (by omega)
        rw [nat_of q4.1] at hs
        refine V_putB (av := [.inr (.inl w), .inl n]) (st := []) D.1 mwX0_addLowFirst rfl lkX9_X0_addLowFirst hs p4.1 rfl ⟨Nat.zero_le _, Nat.zero_le _⟩ (fun I2 e2 d2 => ?_)
        have k2 := m1.setVal l1 ho.symm e2 d2
        rw [hlat] at k2
        have R := h.setG (m := m) n1.symm (I' := I2) (N' := N) (fun a ha => ⟨e2 a (by omega) (by omega), rfl⟩) k2
        refine V_run D.1 [] 73 rfl ⟨by rw [p2]; exact p4.1, p1, trivial⟩ ?_
        rw [p2, d2.2.2.2.1]
        refine V_xiret D rfl rfl ⟨rfl, rfl, rfl, ?_, R⟩
        have e : ((od x.2.1.1.2.2.2.2.1 l).2 ++ (List.range n.toNat).map (lowb w)).length = (od x.2.1.1.2.2.2.2.1 l).2.length + n.toNat := by simp
        unfold rI
        rw [e, show ((((od x.2.1.1.2.2.2.2.1 l).2.length + n.toNat : Nat)) : Int) = ((od x.2.1.1.2.2.2.2.1 l).2.length : Int) + n by omega]
      · rw [if_pos hf, if_neg (by omega)]
        refine V_ne D.1 55 rfl rfl (by omega) (fun q6 => absurd rfl q6) (fun q6 => ?_)
        exact V_throw D (71, 75, "java/lang/IllegalStateException") (by decide) (95, "no option was put, or its value would be too long") (by decide) rfl rfl rfl rfl rfl rfl rfl ⟨by decide, by decide⟩ (fun z' hz => ⟨Nat.succ_ne_zero _, rfl, hz, rfl, RCh.rf, h⟩)
  · rw [b01_dec0] at q4
    have e : dLonger x w n = (1, 0, x) := by unfold dLonger; rw [if_pos q4]
    rw [e]
    exact V_throw D (47, 51, "java/lang/IllegalArgumentException") (by decide) (85, "n is not 0 .. 8") (by decide) rfl rfl rfl rfl rfl rfl rfl ⟨by decide, by decide⟩ (fun z' hz => ⟨Nat.succ_ne_zero _, rfl, hz, rfl, RCh.rf, h⟩)
theorem s_dPayload {w n : Int} (h : DkAt T I N d x) (h4 : xIn n) : XSpec mX9_payload 7 [.inr (.inr d), .inr (.inl w), .inl n] z T I N 1 6 (OpP z T I N d rI (dPayload x w n)) (OpX z T I N d cs2 (dPayload x w n)) := by
  obtain ⟨⟨a1, a2, a3, a4, a5⟩, b1, s1, m, ms, ⟨n1, n2, n3⟩, m1, g', lat', m2⟩ := _root_.id h
  have hB := m1.2.2.2.1
  refine XSpec_of okX9_payload (by decide) (by decide) (Nat.le_of_ble_eq_true rfl) fun Γ E D => ?_
  refine V_run D.1 [] 9 rfl ⟨by rw [n1]; exact m1.1.1, a1, trivial⟩ ?_
  rw [n1, m1.1.2.2.1]
  refine V_thruS (av := [.inr (.inr (m + 3)), .inr (.inl w), .inl n]) (st := []) D mwX9_extend rfl lkX9_X9_extend (s_extend hB h4) rfl ⟨by decide, by decide⟩ (fun r z' T' I' N' P => ?_) (fun cls z' T' I' N' P => ?_)
  · obtain ⟨c1, rfl, e1, e2, e3, e4, e5⟩ := P
    rw [e1, e2, e3]
    have e : dPayload x w n = (0, (x.2.1.1.2.2.2.2.2.length : Int) + n, (x.1, ((x.2.1.1.1, x.2.1.1.2.1, x.2.1.1.2.2.1, x.2.1.1.2.2.2.1, x.2.1.1.2.2.2.2.1, x.2.1.1.2.2.2.2.2 ++ lows w n), x.2.1.2), x.2.2)) := by unfold dPayload; rw [if_neg (fun h => h c1.1), if_neg (fun h => h c1.2)]
    rw [e]
    have k2 := m1.setPay e4 e5
    have R := h.setG (m := m) n1.symm (I' := I') (N' := N) (fun a ha => ⟨e4 a (by omega) (by omega), rfl⟩) k2
    exact V_norm (V_iret D.1 rfl rfl ⟨rfl, rfl, rfl, rfl, R⟩)
  · obtain ⟨hz, e1, e2, e3, hc⟩ := P
    rcases hc with ⟨hc, c1⟩ | ⟨hc, c1, c2⟩
    · have e : dPayload x w n = (1, 0, x) := by unfold dPayload; rw [if_pos c1]
      rw [e, hc, e1, e2, e3]
      exact ⟨Nat.succ_ne_zero _, rfl, hz, rfl, RCh.rf, h⟩
    · have e : dPayload x w n = (2, 0, x) := by unfold dPayload; rw [if_neg (fun h => h c1), if_pos (by omega)]
      rw [e, hc, e1, e2, e3]
      exact ⟨Nat.succ_ne_zero _, rfl, hz, rfl, RCh.rf, h⟩
theorem s_dFeed {w n : Int} (h : DkAt T I N d x) (h4 : xIn n) : XSpec mX9_feed 7 [.inr (.inr d), .inr (.inl w), .inl n] z T I N 1 6 (OpP z T I N d rI (dFeed x w n)) (OpX z T I N d cs2 (dFeed x w n)) := by
  obtain ⟨⟨a1, a2, a3, a4, a5⟩, b1, s1, m, ms, ⟨n1, n2, n3⟩, m1, g', lat', m2⟩ := _root_.id h
  refine XSpec_of okX9_feed (by decide) (by decide) (Nat.le_of_ble_eq_true rfl) fun Γ E D => ?_
  refine V_run D.1 [] 6 rfl ⟨a1, trivial⟩ ?_
  rw [a2]
  refine V_thruS (av := [.inr (.inr (d + 1)), .inr (.inl w), .inl n]) (st := []) D mwX9_extend rfl lkX9_X9_extend (s_extend b1 h4) rfl ⟨by decide, by decide⟩ (fun r z' T' I' N' P => ?_) (fun cls z' T' I' N' P => ?_)
  · obtain ⟨c1, rfl, e1, e2, e3, e4, e5⟩ := P
    rw [e1, e2, e3]
    have e : dFeed x w n = (0, (x.1.length : Int) + n, (x.1 ++ lows w n, x.2)) := by unfold dFeed; rw [if_neg (fun h => h c1.1), if_neg (fun h => h c1.2)]
    rw [e]
    exact V_norm (V_iret D.1 rfl rfl ⟨rfl, rfl, rfl, rfl, h.setH e4 e5⟩)
  · obtain ⟨hz, e1, e2, e3, hc⟩ := P
    rcases hc with ⟨hc, c1⟩ | ⟨hc, c1, c2⟩
    · have e : dFeed x w n = (1, 0, x) := by unfold dFeed; rw [if_pos c1]
      rw [e, hc, e1, e2, e3]
      exact ⟨Nat.succ_ne_zero _, rfl, hz, rfl, RCh.rf, h⟩
    · have e : dFeed x w n = (2, 0, x) := by unfold dFeed; rw [if_neg (fun h => h c1), if_pos (by omega)]
      rw [e, hc, e1, e2, e3]
      exact ⟨Nat.succ_ne_zero _, rfl, hz, rfl, RCh.rf, h⟩
theorem s_dEnd {n : Int} (h : DkAt T I N d x) (h4 : xIn n) : XSpec mX9_end 7 [.inr (.inr d), .inl n] z T I N 1 6 (OpP z T I N d rV (dEnd x n)) (OpX z T I N d cs2 (dEnd x n)) := by
  obtain ⟨⟨a1, a2, a3, a4, a5⟩, b1, s1, m, ms, ⟨n1, n2, n3⟩, m1, g', lat', m2⟩ := _root_.id h
  have h5 := b1.2.2.2.2.1
  refine XSpec_of okX9_end (by decide) (by decide) (Nat.le_of_ble_eq_true rfl) fun Γ E D => ?_
  refine V_run D.1 [] 8 rfl ⟨by rw [a2]; exact b1.1, a1, trivial⟩ ?_
  rw [a2, b1.2.2.2.1]
  refine V_askS (av := [.inl n, .inl (x.1.length : Int)]) (st := []) D.1 mwX9_within rfl lkX9_X9_within (s_within h4 (by omega)) rfl ⟨Nat.zero_le _, Nat.zero_le _⟩ ?_
  refine V_ne D.1 24 rfl rfl (b01_in _) (fun q4 => ?_) (fun q4 => ?_)
  · rw [b01_dec1] at q4
    have e : dEnd x n = (0, 0, (x.1.take n.toNat, x.2)) := by unfold dEnd; rw [if_pos q4]
    rw [e]
    refine V_run D.1 [] 29 rfl ⟨a1, trivial⟩ ?_
    rw [a2]
    have hs := s_keepFirst (z := z) b1 h4
    rw [if_pos q4.1] at hs
    refine V_putB (av := [.inl n]) (st := []) D.1 mwX0_keepFirst rfl lkX9_X0_keepFirst hs b1.1 rfl ⟨Nat.zero_le _, Nat.zero_le _⟩ (fun I2 e2 d2 => ?_)
    exact V_xvret D rfl rfl ⟨rfl, rfl, rfl, rfl, h.setH e2 d2⟩
  · rw [b01_dec0] at q4
    have e : dEnd x n = (1, 0, x) := by unfold dEnd; rw [if_neg q4]
    rw [e]
    exact V_throw D (47, 51, "java/lang/IllegalArgumentException") (by decide) (120, "there are not so many bytes at hand") (by decide) rfl rfl rfl rfl rfl rfl rfl ⟨by decide, by decide⟩ (fun z' hz => ⟨Nat.succ_ne_zero _, rfl, hz, rfl, RCh.rf, h⟩)
theorem s_dWrite (h : DkAt T I N d x) (hx : DkOk x) : XSpec mX9_write 7 [.inr (.inr d)] z T I N 1 6 (OpP z T I N d rI (dWrite x)) (OpX z T I N d csIS (dWrite x)) := by
  obtain ⟨⟨a1, a2, a3, a4, a5⟩, b1, s1, m, ms, ⟨n1, n2, n3⟩, m1, g', lat', m2⟩ := _root_.id h
  have hwl : (wr x.2.1.1).length ≤ 20000 := by
    rw [wr_len]
    have h1 := hx.1.2.2.2.1.2
    have h2 := hx.1.2.2.2.2.2.2
    have h3 : ∀ (os : List Opt) (b : Int), (∀ q ∈ os, q.2.length ≤ 400) → (wos b os).length ≤ 405 * os.length := by
      intro os
      induction os with
      | nil => intro b _; simp [wos]
      | cons q r ih =>
        intro b hq
        simp only [wos, List.length_append, wo_len, List.length_cons]
        have i1 := ih q.1 (fun w hw => hq w (List.mem_cons_of_mem _ hw))
        have i2 := hq q (List.mem_cons_self ..)
        have i3 := mb_le (q.1 - b)
        have i4 := mb_le (q.2.length : Int)
        omega
    have h4 := h3 x.2.1.1.2.2.2.2.1 0 (fun q hq => (hx.1.2.2.2.2.1.mem (by omega) q hq).2.2.2)
    have h5 := m1.1.2.2.2.2.2.2.2
    split <;> omega
  refine XSpec_of okX9_write (by decide) (by decide) (Nat.le_of_ble_eq_true rfl) fun Γ E D => ?_
  refine V_run D.1 [] 4 rfl ⟨a1, trivial⟩ ?_
  rw [n1]
  refine V_askV (av := []) (st := []) D.1 mwX1_writtenSize rfl lkX9_X1_writtenSize (s_size m1 hx.1) m1.1.1 rfl ⟨Nat.zero_le _, Nat.zero_le _⟩ ?_
  refine V_run D.1 [] 10 rfl trivial ?_
  refine V_ile D.1 23 rfl rfl (by omega) (by omega) (fun q1 => ?_) (fun q1 => ?_)
  · have e : dWrite x = (0, ((wr x.2.1.1).length : Int), (wr x.2.1.1, x.2)) := by unfold dWrite; rw [if_neg (by omega)]
    rw [e]
    refine V_run D.1 [] 27 rfl ⟨a1, trivial⟩ ?_
    rw [a2]
    refine V_putB (av := []) (st := []) D.1 mwX0_clear rfl lkX9_X0_clear (s_clear b1) b1.1 rfl ⟨Nat.zero_le _, Nat.zero_le _⟩ (fun I1 e1 d1 => ?_)
    have m1' : MAt T I1 N m 20 x.2.1.1 x.2.1.2 := m1.kept (fun a h1 h2 => ⟨e1 a (by omega) (by omega), rfl⟩)
    refine V_run D.1 [] 38 rfl ⟨a1, a1, trivial⟩ ?_
    rw [n1, a2]
    refine V_putB (av := [.inr (.inr (d + 1))]) (st := []) D.1 mwX1_writeBehind rfl lkX9_X1_writeBehind (s_behind m1' hx.1 d1 (by omega) (by simp; omega)) m1.1.1 rfl ⟨Nat.zero_le _, Nat.zero_le _⟩ (fun I2 e2 d2 => ?_)
    rw [List.nil_append] at d2
    have R := h.setH (I' := I2) (fun a h1 h2 => by rw [e2 a h1 h2]; exact e1 a h1 h2) d2
    refine V_run D.1 [] 48 rfl ⟨by rw [a2]; exact b1.1, a1, trivial⟩ ?_
    rw [a2, d2.2.2.2.1]
    exact V_xiret D rfl rfl ⟨rfl, rfl, rfl, rfl, R⟩
  · have e : dWrite x = (1, 0, x) := by unfold dWrite; rw [if_pos (by omega)]
    rw [e]
    exact V_throw D (71, 75, "java/lang/IllegalStateException") (by decide) (111, "more than 2000 bytes") (by decide) rfl rfl rfl rfl rfl rfl rfl ⟨by decide, by decide⟩ (fun z' hz => ⟨Nat.succ_ne_zero _, rfl, hz, rfl, RCh.rf, h⟩)
end XDk2
