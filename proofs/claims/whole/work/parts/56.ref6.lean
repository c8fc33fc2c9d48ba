theorem wos_le405 : ∀ {os : List Opt} {b : Int}, OsOk b os → 0 ≤ b → (wos b os).length ≤ 405 * os.length
  | [], _, _, _ => by simp [wos]
  | q :: r, b, h, hb => by
    obtain ⟨h1, h2, h3, h4, h5⟩ := h
    have := wos_le405 h5 (by omega)
    have e := wo_len b q
    have m1 := mb_le (q.1 - b)
    have m2 := mb_le (q.2.length : Int)
    simp only [wos, List.length_append, List.length_cons]
    omega
section XRef6
variable {Γ : xG} {E : xE} {M : xM} {z : Nat} {T : xY} {I I' : xI} {N : xN} {y m lev mc ms ce sl pc idx : Nat} {os : List Opt} {g : Msg} {x : Dk} {xs : List Int} {Q : State → Prop} {lv : xL}
theorem r_longer_ {w n : Int} (h : MdAt T I N y x) (hok : MOk x.2.1.1) (h4 : xIn n) : Spec mX10_longer_ 1 [.inr (.inr y), .inr (.inl w), .inl n] z T I N 0 0 (MdP z T I N y rI (dLonger x w n)) := by
  have hS := h.1
  have hO := h.2.2.1.1.2.2.1
  have hn := h.2.2.1.2.1
  have hla := h.2.2.1.2.2
  have hL := OL_of hok.2.2.2.2.1 (Int.le_refl _)
  refine Spec_of okX10_longer_ (by decide) (by decide) (Nat.le_of_ble_eq_true rfl) fun Γ E D => ?_
  have bad : ∀ c : Nat, 0 < c ∧ c ≤ 2 → dLonger x w n = (c, 0, x) → V Γ E (xQ Γ E (MdP z T I N y rI (dLonger x w n)) 0 0) z T I N 0 0 45 (xlv [some (.inr (.inr y)), some (.inr (.inl w)), none, some (.inl n)]) [.inl (c : Int), .inr (.inr y)] := fun c hc e => by
    rw [e]
    refine V_ref1 D hS rfl lkX10_X10_refuses (by omega) 53 rfl rfl rfl ⟨Nat.le_refl _, Nat.le_refl _⟩ ?_
    refine V_run D [] 52 rfl trivial ?_
    exact V_iret D rfl rfl (MdP.no h hok c rfl)
  have bad1 : ¬ (0 ≤ n ∧ n ≤ 8) → V Γ E (xQ Γ E (MdP z T I N y rI (dLonger x w n)) 0 0) z T I N 0 0 11 (xlv [some (.inr (.inr y)), some (.inr (.inl w)), none, some (.inl n)]) [.inr (.inr y)] := fun hc => by
    refine V_run D [] 45 rfl trivial ?_
    exact bad 1 (by omega) (by unfold dLonger; rw [if_pos hc])
  refine V_loc [some (.inr (.inr y)), some (.inr (.inl w)), none, some (.inl n)] rfl ?_
  refine V_run D [] 2 rfl trivial ?_
  refine V_lt D 11 rfl rfl h4 (fun q => bad1 (by omega)) (fun c1 => ?_)
  refine V_run D [] 8 rfl trivial ?_
  refine V_ile D 15 rfl rfl h4 (by omega) (fun c2 => ?_) (fun q => bad1 (by omega))
  have bad2 : dLonger x w n = (2, 0, x) → V Γ E (xQ Γ E (MdP z T I N y rI (dLonger x w n)) 0 0) z T I N 0 0 40 (xlv [some (.inr (.inr y)), some (.inr (.inl w)), none, some (.inl n)]) [.inr (.inr y)] := fun e => by
    refine V_run D [] 45 rfl trivial ?_
    exact bad 2 (by omega) e
  refine V_run D [] 20 rfl ⟨hS.1, trivial⟩ ?_
  cases hlat : x.2.1.2 with
  | none =>
    rw [hlat] at hla
    have e12 : I y 12 = -1 := hla
    rw [e12]
    exact V_ieq D 40 rfl rfl (by omega) (by omega) (fun _ => bad2 (by unfold dLonger; rw [if_neg (by omega), hlat])) (fun q => absurd rfl q)
  | some l =>
    rw [hlat] at hla
    obtain ⟨e12, hll⟩ : I y 12 = (l : Int) ∧ l < x.2.1.1.2.2.2.2.1.length := hla
    obtain ⟨o1, o2, o3⟩ := hO.2 l hll
    obtain ⟨v1, v2, v3⟩ := hL l hll
    rw [Nat.mul_zero, Nat.zero_add] at o2
    rw [e12]
    refine V_ieq D 40 rfl rfl (by omega) (by omega) (fun q => absurd q (by omega)) (fun _ => ?_)
    refine V_run D [] 37 rfl ⟨by rw [e12]; exact hS.a8 (by omega), hS.1, hS.1, trivial⟩ ?_
    rw [hS.n8, e12, Int.toNat_natCast, o2]
    refine V_ile D 44 rfl rfl (by omega) (by omega) (fun c3 => ?_) (fun c3 => bad2 (by unfold dLonger; rw [if_neg (by omega), hlat]; dsimp only; rw [if_pos c3]))
    have e : dLonger x w n = (0, ((od x.2.1.1.2.2.2.2.1 l).2.length : Int) + n, (x.1, ((x.2.1.1.1, x.2.1.1.2.1, x.2.1.1.2.2.1, x.2.1.1.2.2.2.1, x.2.1.1.2.2.2.2.1.set l ((od x.2.1.1.2.2.2.2.1 l).1, (od x.2.1.1.2.2.2.2.1 l).2 ++ lows w n), x.2.1.1.2.2.2.2.2), some l), x.2.2)) := by unfold dLonger; rw [if_neg (by omega), hlat]; dsimp only; rw [if_neg (by omega)]
    rw [e]
    generalize hos : x.2.1.1.2.2.2.2.1 = os at *
    obtain ⟨n', rfl⟩ : ∃ n' : Nat, n = (n' : Int) := ⟨n.toNat, by omega⟩
    refine V_run D [] 45 rfl trivial ?_
    refine V_ref0 D hS rfl lkX10_X10_refuses 53 rfl rfl rfl ⟨Nat.le_refl _, Nat.le_refl _⟩ ?_
    refine V_run D [56] 56 rfl trivial ?_
    refine V_loc [some (.inr (.inr y)), some (.inr (.inl w)), none, some (.inl (n' : Int)), some (.inl ((0 : Nat) : Int))] rfl ?_
    have hO1 : OO (xup I y 0 0) y 0 os := hO.kept hL (by omega) (fun a k q => by unfold Ob at q; rw [xup_ap, if_neg (by omega)])
    have key : ∀ d i (J : xI), i + d = n' → Fr (fun a k => Ob y 0 a k ∨ (a = y ∧ (k = 0 ∨ k = 12))) I J → J y 0 = 0 → J y 12 = (l : Int) → OO J y 0 (os.set l ((od os l).1, (od os l).2 ++ (List.range i).map (lowb w))) → V Γ E (xQ Γ E (MdP z T I N y rI (0, ((od os l).2.length : Int) + (n' : Int), (x.1, ((x.2.1.1.1, x.2.1.1.2.1, x.2.1.1.2.2.1, x.2.1.1.2.2.2.1, os.set l ((od os l).1, (od os l).2 ++ lows w (n' : Int)), x.2.1.1.2.2.2.2.2), some l), x.2.2))) 0 0) z T J N 0 0 56 (xlv [some (.inr (.inr y)), some (.inr (.inl w)), none, some (.inl (n' : Int)), some (.inl (i : Int))]) [] := by
      intro d
      induction d with
      | zero =>
        intro i J hi fJ j0 j12 oJ
        obtain rfl : i = n' := by omega
        have e9 := (oJ.2 l (by rw [List.length_set]; exact hll)).2.1
        rw [od_set hll, if_pos rfl, Nat.mul_zero, Nat.zero_add] at e9
        refine V_run D [] 59 rfl trivial ?_
        refine V_ige D 82 rfl rfl (by omega) (by omega) (fun _ => ?_) (fun q => absurd q (by omega))
        refine V_run D [] 91 rfl ⟨by rw [j12]; exact hS.a8 (by omega), hS.1, hS.1, trivial⟩ ?_
        rw [hS.n8, j12, Int.toNat_natCast, e9]
        have R := h.setO hok fJ (lat' := some l) oJ (by rw [List.length_set]; omega) ⟨j12, by rw [List.length_set]; omega⟩
        exact V_iret D rfl rfl ⟨rfl, rfl, rfl, by simp [rI], j0, R⟩
      | succ d ih =>
        intro i J hi fJ j0 j12 oJ
        refine V_run D [] 59 rfl trivial ?_
        refine V_ige D 82 rfl rfl (by omega) (by omega) (fun q => absurd q (by omega)) (fun _ => ?_)
        refine V_run D [] 70 rfl ⟨hS.1, trivial⟩ ?_
        rw [j12]
        refine V_askS (av := [.inr (.inl w), .inl (i : Int)]) (st := [.inl (l : Int), .inr (.inr y)]) D mwX10_low rfl lkX10_X10_low (r_low (by omega)) rfl ⟨Nat.le_refl _, Nat.le_refl _⟩ ?_
        have hs := r_longer (z := z) (m := 0) (p := l) (b := lowb w i) hS (by omega) oJ (hL.set hll ⟨v1, by simp; omega, v3.app (lowr_ok w i)⟩) (by rw [List.length_set]; omega) (by rw [List.length_set]; omega) (by rw [od_set hll, if_pos rfl]; simp; omega)
        rw [od_set hll, if_pos rfl, List.set_set, show 21 * 0 + l = l by omega, List.append_assoc] at hs
        refine V_mdV (av := [.inl (l : Int), .inl (lowb w i)]) (st := []) D mwX10_longer rfl lkX10_X10_longer hs hS.1 rfl ⟨Nat.le_refl _, Nat.le_refl _⟩ (fun r J2 P2 => ?_)
        obtain ⟨rfl, f2, o2⟩ := P2
        refine V_run D [56] 56 rfl trivial ?_
        refine V_loc [some (.inr (.inr y)), some (.inr (.inl w)), none, some (.inl (n' : Int)), some (.inl ((i + 1 : Nat) : Int))] rfl ?_
        refine ih (i + 1) J2 (by omega) (fJ.trans (f2.wide (fun a k q => Or.inl q.1))) ?_ ?_ ?_
        · rw [f2 _ _ (by unfold Ob; omega)]; exact j0
        · rw [f2 _ _ (by unfold Ob; omega)]; exact j12
        · rw [lowr_s]; exact o2
    refine key n' 0 _ (Nat.zero_add _) (fun a k q => ?_) xup_0 ?_ ?_
    · rw [xup_ap, if_neg (fun r => q (Or.inr (by omega)))]
    · rw [xup_ap, if_neg (by omega)]; exact e12
    · have e0 : os.set l ((od os l).1, (od os l).2 ++ (List.range 0).map (lowb w)) = os := by
        rw [List.range_zero, List.map_nil, List.append_nil]
        show os.set l (od os l) = os
        rw [od_get hll, List.set_getElem_self]
      rw [e0]; exact hO1
theorem r_payload {w n : Int} (h : MdAt T I N y x) (hok : MOk x.2.1.1) (h4 : xIn n) : Spec mX10_payload 1 [.inr (.inr y), .inr (.inl w), .inl n] z T I N 0 0 (MdP z T I N y rI (dPayload x w n)) := by
  have hS := h.1
  obtain ⟨hP1, hP2⟩ := h.2.2.1.1.2.2.2
  have hp := hok.2.2.2.2.2.2
  refine Spec_of okX10_payload (by decide) (by decide) (Nat.le_of_ble_eq_true rfl) fun Γ E D => ?_
  have bad : ∀ c : Nat, 0 < c ∧ c ≤ 2 → dPayload x w n = (c, 0, x) → V Γ E (xQ Γ E (MdP z T I N y rI (dPayload x w n)) 0 0) z T I N 0 0 34 (xlv [some (.inr (.inr y)), some (.inr (.inl w)), none, some (.inl n)]) [.inl (c : Int), .inr (.inr y)] := fun c hc e => by
    rw [e]
    refine V_ref1 D hS rfl lkX10_X10_refuses (by omega) 42 rfl rfl rfl ⟨Nat.le_refl _, Nat.le_refl _⟩ ?_
    refine V_run D [] 41 rfl trivial ?_
    exact V_iret D rfl rfl (MdP.no h hok c rfl)
  have bad1 : ¬ (0 ≤ n ∧ n ≤ 8) → V Γ E (xQ Γ E (MdP z T I N y rI (dPayload x w n)) 0 0) z T I N 0 0 11 (xlv [some (.inr (.inr y)), some (.inr (.inl w)), none, some (.inl n)]) [.inr (.inr y)] := fun hc => by
    refine V_run D [] 34 rfl trivial ?_
    exact bad 1 (by omega) (by unfold dPayload; rw [if_pos hc])
  refine V_loc [some (.inr (.inr y)), some (.inr (.inl w)), none, some (.inl n)] rfl ?_
  refine V_run D [] 2 rfl trivial ?_
  refine V_lt D 11 rfl rfl h4 (fun q => bad1 (by omega)) (fun c1 => ?_)
  refine V_run D [] 8 rfl trivial ?_
  refine V_ile D 15 rfl rfl h4 (by omega) (fun c2 => ?_) (fun q => bad1 (by omega))
  refine V_run D [] 26 rfl ⟨hS.a10 (by omega), hS.1, trivial⟩ ?_
  rw [hS.n10, show ((0 : Int)).toNat = 0 from rfl, hP1]
  refine V_ile D 33 rfl rfl (by omega) (by omega) (fun c3 => ?_) (fun c3 => ?_)
  · have e : dPayload x w n = (0, (x.2.1.1.2.2.2.2.2.length : Int) + n, (x.1, ((x.2.1.1.1, x.2.1.1.2.1, x.2.1.1.2.2.1, x.2.1.1.2.2.2.1, x.2.1.1.2.2.2.2.1, x.2.1.1.2.2.2.2.2 ++ lows w n), x.2.1.2), x.2.2)) := by unfold dPayload; rw [if_neg (by omega), if_neg (by omega)]
    rw [e]
    obtain ⟨n', rfl⟩ : ∃ n' : Nat, n = (n' : Int) := ⟨n.toNat, by omega⟩
    refine V_run D [] 34 rfl trivial ?_
    refine V_ref0 D hS rfl lkX10_X10_refuses 42 rfl rfl rfl ⟨Nat.le_refl _, Nat.le_refl _⟩ ?_
    refine V_run D [45] 45 rfl trivial ?_
    refine V_loc [some (.inr (.inr y)), some (.inr (.inl w)), none, some (.inl (n' : Int)), some (.inl ((0 : Nat) : Int))] rfl ?_
    have key : ∀ d i (J : xI), i + d = n' → Fr (fun a k => (a = y + 10 ∧ k = 0) ∨ a = y + 11 ∨ (a = y ∧ k = 0)) I J → J y 0 = 0 → J (y + 10) 0 = ((x.2.1.1.2.2.2.2.2 ++ (List.range i).map (lowb w)).length : Int) → Rw (J (y + 11)) 0 (x.2.1.1.2.2.2.2.2 ++ (List.range i).map (lowb w)) → V Γ E (xQ Γ E (MdP z T I N y rI (0, (x.2.1.1.2.2.2.2.2.length : Int) + (n' : Int), (x.1, ((x.2.1.1.1, x.2.1.1.2.1, x.2.1.1.2.2.1, x.2.1.1.2.2.2.1, x.2.1.1.2.2.2.2.1, x.2.1.1.2.2.2.2.2 ++ lows w (n' : Int)), x.2.1.2), x.2.2))) 0 0) z T J N 0 0 45 (xlv [some (.inr (.inr y)), some (.inr (.inl w)), none, some (.inl (n' : Int)), some (.inl (i : Int))]) [] := by
      intro d
      induction d with
      | zero =>
        intro i J hi fJ j0 j1 j2
        obtain rfl : i = n' := by omega
        refine V_run D [] 48 rfl trivial ?_
        refine V_ige D 84 rfl rfl (by omega) (by omega) (fun _ => ?_) (fun q => absurd q (by omega))
        refine V_run D [] 90 rfl ⟨hS.a10 (by omega), hS.1, trivial⟩ ?_
        rw [hS.n10, show ((0 : Int)).toNat = 0 from rfl, j1]
        have R := h.setP hok fJ j1 j2
        exact V_iret D rfl rfl ⟨rfl, rfl, rfl, by simp [rI], j0, R⟩
      | succ d ih =>
        intro i J hi fJ j0 j1 j2
        have jl : (x.2.1.1.2.2.2.2.2 ++ (List.range i).map (lowb w)).length = x.2.1.1.2.2.2.2.2.length + i := by simp
        refine V_run D [] 48 rfl trivial ?_
        refine V_ige D 84 rfl rfl (by omega) (by omega) (fun q => absurd q (by omega)) (fun _ => ?_)
        refine V_run D [] 64 rfl ⟨hS.a10 (by omega), hS.1, hS.1, trivial⟩ ?_
        rw [hS.n10, show ((0 : Int)).toNat = 0 from rfl, j1]
        refine V_askS (av := [.inr (.inl w), .inl (i : Int)]) (st := [.inl ((x.2.1.1.2.2.2.2.2 ++ (List.range i).map (lowb w)).length : Int), .inr (.inr (N y 11))]) D mwX10_low rfl lkX10_X10_low (r_low (by omega)) rfl ⟨Nat.le_refl _, Nat.le_refl _⟩ ?_
        refine V_run D [45] 45 rfl ⟨hS.a10 (by omega), hS.a10 (by omega), hS.1, hS.a11 (by omega), trivial⟩ ?_
        rw [hS.n10, hS.n11, show ((0 : Int)).toNat = 0 from rfl, Int.toNat_natCast, xup_ne (show y + 10 ≠ y + 11 by omega), j1]
        refine V_loc [some (.inr (.inr y)), some (.inr (.inl w)), none, some (.inl (n' : Int)), some (.inl ((i + 1 : Nat) : Int))] rfl ?_
        refine ih (i + 1) _ (by omega) (fun a k q => ?_) ?_ ?_ ?_
        · rw [xup_ap, if_neg (by omega), xup_ap, if_neg (by omega), fJ a k q]
        · rw [xup_ap, if_neg (by omega), xup_ap, if_neg (by omega)]; exact j0
        · rw [xup_ap, if_pos ⟨rfl, rfl⟩]; simp; omega
        · rw [lowr_s, ← List.append_assoc]
          refine j2.push (fun j hj => ?_) ?_
          · rw [xup_ap, if_neg (by omega), xup_ap, if_neg (by omega)]
          · rw [xup_ap, if_neg (by omega), xup_ap, if_pos (by omega)]
    refine key n' 0 _ (Nat.zero_add _) (fun a k q => ?_) xup_0 ?_ ?_
    · rw [xup_ap, if_neg (by omega)]
    · rw [xup_ap, if_neg (by omega)]; simpa using hP1
    · rw [List.range_zero, List.map_nil, List.append_nil]
      exact hP2.kept (fun j hj => by rw [Nat.mul_zero, xup_ap, if_neg (by omega)])
  · refine V_run D [] 34 rfl trivial ?_
    exact bad 2 (by omega) (by unfold dPayload; rw [if_neg (by omega), if_pos (by omega)])
theorem r_write (h : MdAt T I N y x) (hok : MOk x.2.1.1) : Spec mX10_write 3 [.inr (.inr y)] z T I N 0 0 (MdP z T I N y rI (dWrite x)) := by
  have hS := h.1
  have hn := h.2.2.1.2.1
  have hw : (wr x.2.1.1).length ≤ 2147483647 := by
    have := wr_len x.2.1.1
    have h1 := hok.2.2.2.1.2
    have h2 := hok.2.2.2.2.2.2
    have h3 := wos_le405 hok.2.2.2.2.1 (Int.le_refl _)
    split at this <;> omega
  refine Spec_of okX10_write (by decide) (by decide) (Nat.le_of_ble_eq_true rfl) fun Γ E D => ?_
  refine V_run D [] 3 rfl trivial ?_
  refine V_askV (av := [.inl ((0 : Nat) : Int)]) (st := [.inr (.inr y)]) D mwX10_size rfl lkX10_X10_size (r_size hS (by omega) h.2.2.1.1 hok hn) hS.1 rfl ⟨Nat.le_refl _, Nat.le_refl _⟩ ?_
  refine V_run D [] 9 rfl trivial ?_
  refine V_ile D 16 rfl rfl (by omega) (by omega) (fun c => ?_) (fun c => ?_)
  · have e : dWrite x = (0, ((wr x.2.1.1).length : Int), (wr x.2.1.1, x.2)) := by unfold dWrite; rw [if_neg (by omega)]
    rw [e]
    refine V_run D [] 17 rfl trivial ?_
    refine V_ref0 D hS rfl lkX10_X10_refuses 25 rfl rfl rfl ⟨Nat.le_refl _, Nat.le_refl _⟩ ?_
    refine V_run D [] 27 rfl trivial ?_
    have h' := h.code hok 0
    refine V_mdV (av := [.inl ((0 : Nat) : Int)]) (st := []) D mwX10_writes rfl lkX10_X10_writes (r_writes hS (by omega) h'.2.2.1.1 hok hn (by omega)) hS.1 rfl ⟨Nat.le_refl _, Nat.le_refl _⟩ (fun r I1 P1 => ?_)
    obtain ⟨rfl, f1, h1⟩ := P1
    refine V_run D [] 34 rfl ⟨hS.1, trivial⟩ ?_
    rw [h1.1.1]
    have fr : Fr (fun a k => Hb y a k ∨ (a = y ∧ k = 0)) I I1 := fun a k q => by rw [f1 a k (fun r => q (Or.inl r)), xup_ap, if_neg (fun r => q (Or.inr r))]
    exact V_iret D rfl rfl ⟨rfl, rfl, rfl, rfl, by rw [f1 _ _ (by unfold Hb; omega)]; exact xup_0, h.setH hok fr h1⟩
  · have e : dWrite x = (1, 0, x) := by unfold dWrite; rw [if_pos (by omega)]
    rw [e]
    refine V_run D [] 17 rfl trivial ?_
    refine V_ref1 D hS rfl lkX10_X10_refuses (by omega) 25 rfl rfl rfl ⟨Nat.le_refl _, Nat.le_refl _⟩ ?_
    refine V_run D [] 24 rfl trivial ?_
    exact V_iret D rfl rfl (MdP.no h hok 1 rfl)
theorem r_feed {w n : Int} (h : MdAt T I N y x) (hok : MOk x.2.1.1) (h4 : xIn n) : Spec mX10_feed 1 [.inr (.inr y), .inr (.inl w), .inl n] z T I N 0 0 (MdP z T I N y rI (dFeed x w n)) := by
  have hS := h.1
  have hH := h.2.1
  have hl := hH.1.2.1
  refine Spec_of okX10_feed (by decide) (by decide) (Nat.le_of_ble_eq_true rfl) fun Γ E D => ?_
  have bad : ∀ c : Nat, 0 < c ∧ c ≤ 2 → dFeed x w n = (c, 0, x) → V Γ E (xQ Γ E (MdP z T I N y rI (dFeed x w n)) 0 0) z T I N 0 0 32 (xlv [some (.inr (.inr y)), some (.inr (.inl w)), none, some (.inl n)]) [.inl (c : Int), .inr (.inr y)] := fun c hc e => by
    rw [e]
    refine V_ref1 D hS rfl lkX10_X10_refuses (by omega) 40 rfl rfl rfl ⟨Nat.le_refl _, Nat.le_refl _⟩ ?_
    refine V_run D [] 39 rfl trivial ?_
    exact V_iret D rfl rfl (MdP.no h hok c rfl)
  have bad1 : ¬ (0 ≤ n ∧ n ≤ 8) → V Γ E (xQ Γ E (MdP z T I N y rI (dFeed x w n)) 0 0) z T I N 0 0 11 (xlv [some (.inr (.inr y)), some (.inr (.inl w)), none, some (.inl n)]) [.inr (.inr y)] := fun hc => by
    refine V_run D [] 32 rfl trivial ?_
    exact bad 1 (by omega) (by unfold dFeed; rw [if_pos hc])
  refine V_loc [some (.inr (.inr y)), some (.inr (.inl w)), none, some (.inl n)] rfl ?_
  refine V_run D [] 2 rfl trivial ?_
  refine V_lt D 11 rfl rfl h4 (fun q => bad1 (by omega)) (fun c1 => ?_)
  refine V_run D [] 8 rfl trivial ?_
  refine V_ile D 15 rfl rfl h4 (by omega) (fun c2 => ?_) (fun q => bad1 (by omega))
  refine V_run D [] 24 rfl ⟨hS.1, trivial⟩ ?_
  rw [hH.1.1]
  refine V_ile D 31 rfl rfl (by omega) (by omega) (fun c3 => ?_) (fun c3 => ?_)
  · have e : dFeed x w n = (0, (x.1.length : Int) + n, (x.1 ++ lows w n, x.2)) := by unfold dFeed; rw [if_neg (by omega), if_neg (by omega)]
    rw [e]
    obtain ⟨n', rfl⟩ : ∃ n' : Nat, n = (n' : Int) := ⟨n.toNat, by omega⟩
    refine V_run D [] 32 rfl trivial ?_
    refine V_ref0 D hS rfl lkX10_X10_refuses 40 rfl rfl rfl ⟨Nat.le_refl _, Nat.le_refl _⟩ ?_
    refine V_run D [43] 43 rfl trivial ?_
    refine V_loc [some (.inr (.inr y)), some (.inr (.inl w)), none, some (.inl (n' : Int)), some (.inl ((0 : Nat) : Int))] rfl ?_
    have key : ∀ d i (J : xI), i + d = n' → Fr (fun a k => Hb y a k ∨ (a = y ∧ k = 0)) I J → J y 0 = 0 → HH J y (x.1 ++ (List.range i).map (lowb w)) → V Γ E (xQ Γ E (MdP z T I N y rI (0, (x.1.length : Int) + (n' : Int), (x.1 ++ lows w (n' : Int), x.2))) 0 0) z T J N 0 0 43 (xlv [some (.inr (.inr y)), some (.inr (.inl w)), none, some (.inl (n' : Int)), some (.inl (i : Int))]) [] := by
      intro d
      induction d with
      | zero =>
        intro i J hi fJ j0 j1
        obtain rfl : i = n' := by omega
        refine V_run D [] 46 rfl trivial ?_
        refine V_ige D 65 rfl rfl (by omega) (by omega) (fun _ => ?_) (fun q => absurd q (by omega))
        refine V_run D [] 69 rfl ⟨hS.1, trivial⟩ ?_
        rw [j1.1.1]
        exact V_iret D rfl rfl ⟨rfl, rfl, rfl, by simp [rI], j0, h.setH hok fJ j1⟩
      | succ d ih =>
        intro i J hi fJ j0 j1
        refine V_run D [] 46 rfl trivial ?_
        refine V_ige D 65 rfl rfl (by omega) (by omega) (fun q => absurd q (by omega)) (fun _ => ?_)
        refine V_run D [] 53 rfl trivial ?_
        refine V_askS (av := [.inr (.inl w), .inl (i : Int)]) (st := [.inr (.inr y)]) D mwX10_low rfl lkX10_X10_low (r_low (by omega)) rfl ⟨Nat.le_refl _, Nat.le_refl _⟩ ?_
        refine V_mdV (av := [.inl (lowb w i)]) (st := []) D mwX10_put rfl lkX10_X10_put (r_put hS j1 (by simp; omega) (lowb_rng w i)) hS.1 rfl ⟨Nat.le_refl _, Nat.le_refl _⟩ (fun r J2 P2 => ?_)
        obtain ⟨rfl, f2, o2⟩ := P2
        refine V_run D [43] 43 rfl trivial ?_
        refine V_loc [some (.inr (.inr y)), some (.inr (.inl w)), none, some (.inl (n' : Int)), some (.inl ((i + 1 : Nat) : Int))] rfl ?_
        refine ih (i + 1) J2 (by omega) (fJ.trans (f2.wide (fun a k q => Or.inl q))) (by rw [f2 _ _ (by unfold Hb; omega)]; exact j0) ?_
        rw [lowr_s, ← List.append_assoc]; exact o2
    refine key n' 0 _ (Nat.zero_add _) (fun a k q => ?_) xup_0 ?_
    · rw [xup_ap, if_neg (fun r => q (Or.inr r))]
    · rw [List.range_zero, List.map_nil, List.append_nil]
      exact hH.kept (by rw [xup_ap, if_neg (by omega)]) (fun k _ => by rw [xup_ap, if_neg (by omega)])
  · refine V_run D [] 32 rfl trivial ?_
    exact bad 2 (by omega) (by unfold dFeed; rw [if_neg (by omega), if_pos (by omega)])
theorem r_end {n : Int} (h : MdAt T I N y x) (hok : MOk x.2.1.1) (h4 : xIn n) : Spec mX10_end 1 [.inr (.inr y), .inl n] z T I N 0 0 (MdP z T I N y rV (dEnd x n)) := by
  have hS := h.1
  have hH := h.2.1
  have hl := hH.1.2.1
  refine Spec_of okX10_end (by decide) (by decide) (Nat.le_of_ble_eq_true rfl) fun Γ E D => ?_
  have bad : ¬ (0 ≤ n ∧ n ≤ x.1.length) → V Γ E (xQ Γ E (MdP z T I N y rV (dEnd x n)) 0 0) z T I N 0 0 13 (xlv [some (.inr (.inr y)), some (.inl n)]) [.inr (.inr y)] := fun hc => by
    have e : dEnd x n = (1, 0, x) := by unfold dEnd; rw [if_neg hc]
    rw [e]
    refine V_run D [] 18 rfl trivial ?_
    refine V_mdV (av := [.inl 1]) (st := []) D mwX10_refuses rfl lkX10_X10_refuses (r_refuses hS (by omega)) hS.1 rfl ⟨Nat.le_refl _, Nat.le_refl _⟩ (fun r I1 P1 => ?_)
    obtain ⟨rfl, rfl⟩ := P1
    refine V_ne D 29 rfl rfl (by decide) (fun _ => ?_) (fun q => absurd q (by decide))
    exact V_vret D rfl rfl (MdP.no h hok 1 rfl)
  refine V_loc [some (.inr (.inr y)), some (.inl n)] rfl ?_
  refine V_run D [] 2 rfl trivial ?_
  refine V_lt D 13 rfl rfl h4 (fun q => bad (by omega)) (fun c1 => ?_)
  refine V_run D [] 10 rfl ⟨hS.1, trivial⟩ ?_
  rw [hH.1.1]
  refine V_ile D 17 rfl rfl h4 (by omega) (fun c2 => ?_) (fun q => bad (by omega))
  have e : dEnd x n = (0, 0, (x.1.take n.toNat, x.2)) := by unfold dEnd; rw [if_pos (by omega)]
  rw [e]
  refine V_run D [] 18 rfl trivial ?_
  refine V_mdV (av := [.inl 0]) (st := []) D mwX10_refuses rfl lkX10_X10_refuses (r_refuses hS (by omega)) hS.1 rfl ⟨Nat.le_refl _, Nat.le_refl _⟩ (fun r I1 P1 => ?_)
  obtain ⟨rfl, rfl⟩ := P1
  refine V_ne D 29 rfl rfl (by decide) (fun q => absurd rfl q) (fun _ => ?_)
  refine V_run D [] 29 rfl ⟨hS.1, trivial⟩ ?_
  refine V_vret D rfl rfl ⟨rfl, rfl, rfl, rfl, by rw [xup_ap, if_neg (by omega)]; exact xup_0, h.setH hok (fun a k q => ?_) ⟨⟨?_, ?_, hH.1.2.2.take _⟩, (hH.2.take _).kept (fun j _ => ?_)⟩⟩
  · rw [xup_ap, if_neg (fun r => q (Or.inl (Or.inl r))), xup_ap, if_neg (fun r => q (Or.inr r))]
  · rw [xup_ap, if_pos ⟨rfl, rfl⟩, List.length_take]; omega
  · rw [List.length_take]; omega
  · rw [xup_ap, if_neg (by omega), xup_ap, if_neg (by omega)]
end XRef6
