theorem inso_od {p : Nat} {q : Opt} {os : List Opt} (h : p ≤ os.length) : od (inso p q os) p = q := by rw [inso_at h, if_neg (by omega), if_pos rfl]
theorem inso_set {p : Nat} {q q' : Opt} {os : List Opt} (h : p ≤ os.length) : (inso p q os).set p q' = inso p q' os := by
  unfold inso
  rw [List.set_append_right _ _ (by simp; omega)]
  have e : p - (os.take p).length = 0 := by simp; omega
  rw [e, List.set_cons_zero]
theorem OL.ins {p : Nat} {q : Opt} {os : List Opt} (h : p ≤ os.length) (hL : OL os) (hq : (0 ≤ q.1 ∧ q.1 ≤ 65535) ∧ q.2.length ≤ 400 ∧ BsOk q.2) : OL (inso p q os) := fun k hk => by
  rw [inso_len h] at hk
  rw [inso_at h]
  split
  · exact hL k (by omega)
  · split
    · exact hq
    · exact hL _ (by omega)
theorem OL.set {p : Nat} {q : Opt} {os : List Opt} (h : p < os.length) (hL : OL os) (hq : (0 ≤ q.1 ∧ q.1 ≤ 65535) ∧ q.2.length ≤ 400 ∧ BsOk q.2) : OL (os.set p q) := fun k hk => by
  rw [List.length_set] at hk
  rw [od_set h]
  split
  · exact hq
  · exact hL k hk
theorem lowr_ok (w : Int) (i : Nat) : BsOk ((List.range i).map (lowb w)) := fun v hv => by
  obtain ⟨k, _, rfl⟩ := List.mem_map.mp hv
  exact lowb_rng w k
theorem lowr_s (w : Int) (i : Nat) : (List.range (i + 1)).map (lowb w) = (List.range i).map (lowb w) ++ [lowb w i] := by rw [List.range_succ, List.map_append]; rfl
theorem BsOk.app {xs ys : List Int} (h : BsOk xs) (h' : BsOk ys) : BsOk (xs ++ ys) := fun v hv => by
  rcases List.mem_append.mp hv with q | q
  · exact h v q
  · exact h' v q
section XRef5
variable {Γ : xG} {E : xE} {M : xM} {z : Nat} {T : xY} {I I' : xI} {N : xN} {y m lev mc ms ce sl pc idx : Nat} {os : List Opt} {g : Msg} {x : Dk} {xs : List Int} {Q : State → Prop} {lv : xL}
theorem MdAt.setO (h : MdAt T I N y x) (hok : MOk x.2.1.1) (hf : Fr (fun a k => Ob y 0 a k ∨ (a = y ∧ (k = 0 ∨ k = 12))) I I') {os' : List Opt} {lat' : Option Nat} (hO : OO I' y 0 os') (hn : os'.length ≤ 20) (hl : LL I' y os'.length lat') : (∀ a, (a < y ∨ y + 24 ≤ a) → I' a = I a) ∧ MdAt T I' N y (x.1, ((x.2.1.1.1, x.2.1.1.2.1, x.2.1.1.2.2.1, x.2.1.1.2.2.2.1, os', x.2.1.1.2.2.2.2.2), lat'), x.2.2) := by
  obtain ⟨g1, g2, ⟨⟨⟨a1, a2, a3⟩, ⟨b1, b2⟩, c, d1, d2⟩, g4, g5⟩, g6, g7, g8⟩ := h
  have e1 := hok.2.2.2.1.2
  have e2 := hok.2.2.2.2.2.2
  have k0 : ∀ a k, ¬ Ob y 0 a k → ¬ (a = y ∧ (k = 0 ∨ k = 12)) → I' a k = I a k := fun a k q1 q2 => hf a k (fun q => q.elim q1 q2)
  refine ⟨fun a ha => funext fun k => k0 a k (by unfold Ob; omega) (by omega), g1, g2.kept (k0 _ _ (by unfold Ob; omega) (by omega)) (fun k _ => k0 _ _ (by unfold Ob; omega) (by omega)), ⟨⟨⟨?_, ?_, ?_⟩, ⟨?_, b2.kept (fun j _ => k0 _ _ (by unfold Ob; omega) (by omega))⟩, hO, ?_, d2.kept (fun j _ => k0 _ _ (by unfold Ob; omega) (by omega))⟩, hn, hl⟩, g6.kept (fun a k q => k0 a k (by unfold Rb at q; unfold Ob; omega) (by unfold Rb at q; omega)), g7.kept (fun a k q => k0 a k (by unfold Cb at q; unfold Ob; omega) (by unfold Cb at q; omega)), g8.kept (fun a k q => k0 a k (by unfold Sb at q; unfold Ob; omega) (by unfold Sb at q; omega))⟩
  · rw [k0 _ _ (by unfold Ob; omega) (by omega)]; exact a1
  · rw [k0 _ _ (by unfold Ob; omega) (by omega)]; exact a2
  · rw [k0 _ _ (by unfold Ob; omega) (by omega)]; exact a3
  · rw [k0 _ _ (by unfold Ob; omega) (by omega)]; exact b1
  · rw [k0 _ _ (by unfold Ob; omega) (by omega)]; exact d1
theorem MdAt.setP (h : MdAt T I N y x) (hok : MOk x.2.1.1) (hf : Fr (fun a k => (a = y + 10 ∧ k = 0) ∨ a = y + 11 ∨ (a = y ∧ k = 0)) I I') {v : List Int} (h1 : I' (y + 10) 0 = (v.length : Int)) (h2 : Rw (I' (y + 11)) 0 v) : (∀ a, (a < y ∨ y + 24 ≤ a) → I' a = I a) ∧ MdAt T I' N y (x.1, ((x.2.1.1.1, x.2.1.1.2.1, x.2.1.1.2.2.1, x.2.1.1.2.2.2.1, x.2.1.1.2.2.2.2.1, v), x.2.1.2), x.2.2) := by
  obtain ⟨g1, g2, ⟨⟨⟨a1, a2, a3⟩, ⟨b1, b2⟩, c, d1, d2⟩, g4, g5⟩, g6, g7, g8⟩ := h
  have e1 := hok.2.2.2.1.2
  have k0 : ∀ a k, ¬ ((a = y + 10 ∧ k = 0) ∨ a = y + 11 ∨ (a = y ∧ k = 0)) → I' a k = I a k := hf
  refine ⟨fun a ha => funext fun k => k0 a k (by omega), g1, g2.kept (k0 _ _ (by omega)) (fun k _ => k0 _ _ (by omega)), ⟨⟨⟨?_, ?_, ?_⟩, ⟨?_, b2.kept (fun j _ => k0 _ _ (by omega))⟩, c.kept (OL_of hok.2.2.2.2.1 (Int.le_refl _)) (by omega) (fun a k q => k0 a k (by unfold Ob at q; omega)), h1, h2⟩, g4, g5.kept (k0 _ _ (by omega))⟩, g6.kept (fun a k q => k0 a k (by unfold Rb at q; omega)), g7.kept (fun a k q => k0 a k (by unfold Cb at q; omega)), g8.kept (fun a k q => k0 a k (by unfold Sb at q; omega))⟩
  · rw [k0 _ _ (by omega)]; exact a1
  · rw [k0 _ _ (by omega)]; exact a2
  · rw [k0 _ _ (by omega)]; exact a3
  · rw [k0 _ _ (by omega)]; exact b1
theorem MdAt.setH (h : MdAt T I N y x) (hok : MOk x.2.1.1) (hf : Fr (fun a k => Hb y a k ∨ (a = y ∧ k = 0)) I I') (hH : HH I' y xs) : (∀ a, (a < y ∨ y + 24 ≤ a) → I' a = I a) ∧ MdAt T I' N y (xs, x.2) := by
  obtain ⟨g1, g2, ⟨g3, g4, g5⟩, g6, g7, g8⟩ := h
  have k0 : ∀ a k, ¬ ((a = y ∧ (k = 13 ∨ k = 0)) ∨ a = y + 12) → I' a k = I a k := fun a k q => hf a k (by unfold Hb; omega)
  exact ⟨fun a ha => funext fun k => k0 a k (by omega), g1, hH, ⟨g3.kept hok g4 (fun a k q => k0 a k (by unfold Mb Ob at q; omega)), g4, g5.kept (k0 _ _ (by omega))⟩, g6.kept (fun a k q => k0 a k (by unfold Rb at q; omega)), g7.kept (fun a k q => k0 a k (by unfold Cb at q; omega)), g8.kept (fun a k q => k0 a k (by unfold Sb at q; omega))⟩
theorem r_option {num w n : Int} (h : MdAt T I N y x) (hok : MOk x.2.1.1) (h1 : xIn num) (h4 : xIn n) : Spec mX10_option 1 [.inr (.inr y), .inl num, .inr (.inl w), .inl n] z T I N 0 0 (MdP z T I N y rI (dOption x num w n)) := by
  have hS := h.1
  have hO := h.2.2.1.1.2.2.1
  have hn := h.2.2.1.2.1
  have hL := OL_of hok.2.2.2.2.1 (Int.le_refl _)
  refine Spec_of okX10_option (by decide) (by decide) (Nat.le_of_ble_eq_true rfl) fun Γ E D => ?_
  have bad : ¬ ((0 ≤ num ∧ num ≤ 65535) ∧ 0 ≤ n ∧ n ≤ 8) → V Γ E (xQ Γ E (MdP z T I N y rI (dOption x num w n)) 0 0) z T I N 0 0 26 (xlv [some (.inr (.inr y)), some (.inl num), some (.inr (.inl w)), none, some (.inl n)]) [] := fun hc => by
    have e : dOption x num w n = (1, 0, x) := by unfold dOption; rw [if_pos hc]
    rw [e]
    refine V_run D [] 32 rfl trivial ?_
    refine V_ne D 39 rfl rfl (by omega) (fun q => absurd rfl q) (fun _ => ?_)
    refine V_run D [] 55 rfl trivial ?_
    refine V_ref1 D hS rfl lkX10_X10_refuses (by omega) 63 rfl rfl rfl ⟨Nat.le_refl _, Nat.le_refl _⟩ ?_
    refine V_run D [] 62 rfl trivial ?_
    exact V_iret D rfl rfl (MdP.no h hok 1 rfl)
  refine V_loc [some (.inr (.inr y)), some (.inl num), some (.inr (.inl w)), none, some (.inl n)] rfl ?_
  refine V_run D [] 1 rfl trivial ?_
  refine V_lt D 26 rfl rfl h1 (fun q => bad (by omega)) (fun c1 => ?_)
  refine V_run D [] 7 rfl trivial ?_
  refine V_igt D 26 rfl rfl h1 (by omega) (fun q => bad (by omega)) (fun c2 => ?_)
  refine V_run D [] 12 rfl trivial ?_
  refine V_lt D 26 rfl rfl h4 (fun q => bad (by omega)) (fun c3 => ?_)
  refine V_run D [] 19 rfl trivial ?_
  refine V_igt D 26 rfl rfl h4 (by omega) (fun q => bad (by omega)) (fun c4 => ?_)
  refine V_run D [] 32 rfl trivial ?_
  refine V_ne D 39 rfl rfl (by omega) (fun _ => ?_) (fun q => absurd q (by decide))
  refine V_run D [] 47 rfl ⟨hS.a6 (by omega), hS.1, trivial⟩ ?_
  rw [hS.n6, show ((0 : Int)).toNat = 0 from rfl, hO.1]
  refine V_ine D 54 rfl rfl (by omega) (by omega) (fun q1 => ?_) (fun q1 => ?_)
  · have e : dOption x num w n = (0, (x.2.1.1.2.2.2.2.1.length : Int) + 1, (x.1, ((x.2.1.1.1, x.2.1.1.2.1, x.2.1.1.2.2.1, x.2.1.1.2.2.2.1, inso (ipos num x.2.1.1.2.2.2.2.1 x.2.1.1.2.2.2.2.1.length) (num, lows w n) x.2.1.1.2.2.2.2.1, x.2.1.1.2.2.2.2.2), some (ipos num x.2.1.1.2.2.2.2.1 x.2.1.1.2.2.2.2.1.length)), x.2.2)) := by unfold dOption; rw [if_neg (by omega), if_neg (by omega)]
    rw [e]
    generalize hos : x.2.1.1.2.2.2.2.1 = os at *
    have hp := ipos_le num os os.length
    generalize hpp : ipos num os os.length = p at *
    obtain ⟨n', rfl⟩ : ∃ n' : Nat, n = (n' : Int) := ⟨n.toNat, by omega⟩
    refine V_run D [] 55 rfl trivial ?_
    refine V_ref0 D hS rfl lkX10_X10_refuses 63 rfl rfl rfl ⟨Nat.le_refl _, Nat.le_refl _⟩ ?_
    refine V_run D [] 67 rfl trivial ?_
    have hO1 : OO (xup I y 0 0) y 0 os := hO.kept hL (by omega) (fun a k q => by unfold Ob at q; rw [xup_ap, if_neg (by omega)])
    refine V_mdV (av := [.inl ((0 : Nat) : Int), .inl num]) (st := [.inr (.inr y)]) D mwX10_place rfl lkX10_X10_place (r_place hS (by omega) hO1 hL (by omega) h1) hS.1 rfl ⟨Nat.le_refl _, Nat.le_refl _⟩ (fun r I1 P1 => ?_)
    rw [hpp] at P1
    obtain ⟨rfl, f1, o1⟩ := P1
    rw [show 21 * 0 + p = p by omega]
    refine V_run D [76] 76 rfl ⟨hS.1, trivial⟩ ?_
    refine V_loc [some (.inr (.inr y)), some (.inl num), some (.inr (.inl w)), none, some (.inl (n' : Int)), some (.inl 1), some (.inl ((0 : Nat) : Int))] rfl ?_
    have key : ∀ d i (J : xI), i + d = n' → Fr (fun a k => Ob y 0 a k ∨ (a = y ∧ (k = 0 ∨ k = 12))) I J → J y 0 = 0 → J y 12 = (p : Int) → OO J y 0 (inso p (num, (List.range i).map (lowb w)) os) → V Γ E (xQ Γ E (MdP z T I N y rI (0, (os.length : Int) + 1, (x.1, ((x.2.1.1.1, x.2.1.1.2.1, x.2.1.1.2.2.1, x.2.1.1.2.2.2.1, inso p (num, lows w (n' : Int)) os, x.2.1.1.2.2.2.2.2), some p), x.2.2))) 0 0) z T J N 0 0 76 (xlv [some (.inr (.inr y)), some (.inl num), some (.inr (.inl w)), none, some (.inl (n' : Int)), some (.inl 1), some (.inl (i : Int))]) [] := by
      intro d
      induction d with
      | zero =>
        intro i J hi fJ j0 j12 oJ
        obtain rfl : i = n' := by omega
        refine V_run D [] 80 rfl trivial ?_
        refine V_ige D 103 rfl rfl (by omega) (by omega) (fun _ => ?_) (fun q => absurd q (by omega))
        refine V_run D [] 109 rfl ⟨hS.a6 (by omega), hS.1, trivial⟩ ?_
        have e1 := oJ.1
        rw [inso_len hp] at e1
        rw [hS.n6, show ((0 : Int)).toNat = 0 from rfl, e1]
        have R := h.setO hok fJ (os' := inso p (num, (List.range i).map (lowb w)) os) (lat' := some p) oJ (by rw [inso_len hp]; omega) ⟨j12, by rw [inso_len hp]; omega⟩
        exact V_iret D rfl rfl ⟨rfl, rfl, rfl, rfl, j0, R⟩
      | succ d ih =>
        intro i J hi fJ j0 j12 oJ
        refine V_run D [] 80 rfl trivial ?_
        refine V_ige D 103 rfl rfl (by omega) (by omega) (fun q => absurd q (by omega)) (fun _ => ?_)
        refine V_run D [] 91 rfl ⟨hS.1, trivial⟩ ?_
        rw [j12]
        refine V_askS (av := [.inr (.inl w), .inl (i : Int)]) (st := [.inl (p : Int), .inr (.inr y)]) D mwX10_low rfl lkX10_X10_low (r_low (by omega)) rfl ⟨Nat.le_refl _, Nat.le_refl _⟩ ?_
        have hs := r_longer (z := z) (m := 0) (p := p) (b := lowb w i) hS (by omega) oJ (hL.ins hp ⟨by dsimp only; omega, by simp; omega, lowr_ok w i⟩) (by rw [inso_len hp]; omega) (by rw [inso_len hp]; omega) (by rw [inso_od hp]; simp; omega)
        rw [inso_od hp, inso_set hp, show 21 * 0 + p = p by omega] at hs
        refine V_mdV (av := [.inl (p : Int), .inl (lowb w i)]) (st := []) D mwX10_longer rfl lkX10_X10_longer hs hS.1 rfl ⟨Nat.le_refl _, Nat.le_refl _⟩ (fun r J2 P2 => ?_)
        obtain ⟨rfl, f2, o2⟩ := P2
        refine V_run D [76] 76 rfl trivial ?_
        refine V_loc [some (.inr (.inr y)), some (.inl num), some (.inr (.inl w)), none, some (.inl (n' : Int)), some (.inl 1), some (.inl ((i + 1 : Nat) : Int))] rfl ?_
        refine ih (i + 1) J2 (by omega) (fJ.trans (f2.wide (fun a k q => Or.inl q.1))) ?_ ?_ ?_
        · rw [f2 _ _ (by unfold Ob; omega)]; exact j0
        · rw [f2 _ _ (by unfold Ob; omega)]; exact j12
        · rw [lowr_s]; exact o2
    refine key n' 0 _ (Nat.zero_add _) (fun a k q => ?_) ?_ ?_ ?_
    · rw [xup_ap, if_neg (fun r => q (Or.inr (by omega))), f1 a k (fun r => q (Or.inl r)), xup_ap, if_neg (fun r => q (Or.inr (by omega)))]
    · rw [xup_ap, if_neg (by omega), f1 _ _ (by unfold Ob; omega)]; exact xup_0
    · rw [xup_ap, if_pos ⟨rfl, rfl⟩]
    · exact o1.kept (hL.ins hp ⟨by dsimp only; omega, by simp, BsOk.nil⟩) (by rw [inso_len hp]; omega) (fun a k q => by unfold Ob at q; rw [xup_ap, if_neg (by omega)])
  · have e : dOption x num w n = (2, 0, x) := by unfold dOption; rw [if_neg (by omega), if_pos (by omega)]
    rw [e]
    refine V_run D [] 55 rfl trivial ?_
    refine V_ref1 D hS rfl lkX10_X10_refuses (by omega) 63 rfl rfl rfl ⟨Nat.le_refl _, Nat.le_refl _⟩ ?_
    refine V_run D [] 62 rfl trivial ?_
    exact V_iret D rfl rfl (MdP.no h hok 2 rfl)
end XRef5
