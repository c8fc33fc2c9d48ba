section XSv8
variable {Γ : xG} {E : xE} {z : Nat} {T : xY} {I : xI} {N : xN} {q o m most p b room : Nat} {n : Int} {v xs : List Int} {a g : Msg} {lat : Option Nat} {w : Res} {ty co id tags : Int} {tok : List Int} {rs : List Res} {s : Sv}
theorem ansM_ok (hs : SvOk s) (hok : MOk g) (hos : g.2.2.2.2.1.length ≤ 20) : MOk (ansM s g) ∧ (wr (ansM s g)).length ≤ 421 := by
  obtain ⟨k1, k2, k3, k4, k5⟩ := (actK_ok (k := rfi (pe (pth g.2.2.2.2.1)) s.1.1) hs.1 hs.2.1 hs.2.2.1 hok hos).1
  have e1 : (act s.1.1 s.1.2 g).1 = (actK (rfi (pe (pth g.2.2.2.2.1)) s.1.1) s.1.1 s.1.2 g).1 := rfl
  rw [← e1] at k1 k2 k3 k4 k5
  have ho := hs.2.2.2.1
  have hid := hok.2.2.1
  refine ⟨⟨?_, ?_, ?_, hok.2.2.2.1, k2, k3, k4⟩, ?_⟩
  · unfold ansM; dsimp only; split <;> omega
  · unfold ansM; dsimp only; omega
  · unfold ansM; dsimp only; split <;> omega
  · rw [wr_len]
    have h1 : (ansM s g).2.2.2.1.length ≤ 8 := hok.2.2.2.1.2
    have h2 : (wos 0 (ansM s g).2.2.2.2.1).length ≤ 8 := k5.2
    have h3 : (ansM s g).2.2.2.2.2.length ≤ 400 := k4
    split <;> omega
theorem bat_wr (g : Msg) : bat (wr g) 1 = g.2.1 := by
  unfold bat
  have h := wr_len g
  rw [if_pos (by omega)]
  rfl
def takeP (T : xY) (I : xI) (N : xN) (q b : Nat) (x : Int × List Int × Sv) : Option xV → xI → xN → Prop := fun r I' N' => r = some (.inl x.1) ∧ (∀ a, (a < q ∨ q + 358 ≤ a) → a ≠ b → a ≠ b + 1 → I' a = I a) ∧ (∀ a, (a < q ∨ q + 358 ≤ a) → N' a = N a) ∧ SvAt T I' N' q x.2.2 ∧ BAt T I' N' b 2000 x.2.1
set_option maxHeartbeats 1000000 in
theorem s_take (hS : SvAt T I N q s) (hs : SvOk s) (hg : MAt T I N m 20 g lat) (hok : MOk g) (hfit : (pe (pth g.2.2.2.2.1)).length ≤ 2040) (hp : p < 10) (hB : BAt T I N b 2000 []) (hm : m + 66 ≤ q ∨ q + 358 ≤ m) (hb : b + 2 ≤ q ∨ q + 358 ≤ b) (hbm : b + 2 ≤ m ∨ m + 66 ≤ b) :
    Spec mX7_take 6 [.inr (.inr q), .inr (.inr m), .inl (p : Int), .inr (.inr b)] z T I N 0 0 (xCg z T (takeP T I N q b (tk s g p))) := by
  obtain ⟨⟨a0, v0, n0, hC⟩, ⟨i5, i6, i7⟩, hP⟩ := _root_.id hS
  obtain ⟨⟨a1, a2, a3, a4, a5, a6, a7⟩, b1, c1, ⟨lat0, c2⟩, c3⟩ := _root_.id hC
  have hmT := hg.1.1
  have hos : g.2.2.2.2.1.length ≤ 20 := hg.1.2.2.2.2.2.2.2
  have h01 := hok.1
  have h02 := hok.2.1
  have h03 := hok.2.2.1
  refine Spec_of okX7_take (by decide) (by decide) (Nat.le_of_ble_eq_true rfl) fun Γ E D => ?_
  refine V_run D [] 5 rfl ⟨hmT, trivial⟩ ?_
  rw [hg.2.1.1]
  refine V_ile D 10 rfl rfl (by constructor <;> omega) (by omega) (fun q1 => ?_) (fun q1 => ?_)
  · have reset : (g.2.1 = 0 ∨ 31 < g.2.1) → V Γ E (xQ Γ E (xCg z T (takeP T I N q b (tk s g p))) 0 0) z T I N 0 0 26 (xlv [some (.inr (.inr q)), some (.inr (.inr m)), some (.inl (p : Int)), some (.inr (.inr b))]) [] := fun hc => by
      refine V_run D [] 30 rfl ⟨hmT, trivial⟩ ?_
      rw [hg.2.1.1]
      refine V_ne D 45 rfl rfl (by constructor <;> omega) (fun q2 => ?_) (fun q2 => ?_)
      · have et : tk s g p = (-1, [], s) := by unfold tk; rw [if_neg (by omega), if_pos hc, if_neg q2]
        rw [et]
        refine V_run D [] 46 rfl trivial ?_
        exact V_iret D rfl rfl ⟨rfl, rfl, rfl, fun _ _ _ _ => rfl, fun _ _ => rfl, hS, hB⟩
      · have et : tk s g p = (0, wr (3, 0, g.2.2.1, [], [], []), s) := by unfold tk; rw [if_neg (by omega), if_pos hc, if_pos q2]
        rw [et]
        refine V_run D [] 39 rfl ⟨hmT, trivial⟩ ?_
        rw [hg.2.1.2.2]
        refine V_chV (av := [.inl g.2.2.1, .inr (.inr b)]) (st := []) D mwX7_sendReset rfl lkX7_X7_sendReset (s_sendReset hC h03 hB (by omega) (by simp)) a1 rfl ⟨Nat.le_refl _, Nat.le_refl _⟩ (fun r I1 N1 P1 => ?_)
        obtain ⟨rfl, f1, f2, M1, B1⟩ := P1
        have hq1 := f1 q (by omega) (by omega) (by omega)
        have hnq1 := f2 q (by omega)
        refine V_run D [] 46 rfl trivial ?_
        refine V_iret D rfl rfl ⟨rfl, rfl, rfl, fun a h1 h2 h3 => f1 a (by omega) h2 h3, fun a h1 => f2 a (by omega), ⟨⟨_, v0, n0, ⟨⟨a1, by rw [hnq1]; exact a2, by rw [hnq1]; exact a3, by rw [hnq1]; exact a4, by rw [hnq1]; exact a5, a6, fun k hk => by rw [f2 _ (by omega)]; exact a7 k hk⟩, by rw [hq1]; exact b1, c1.kept (fun a h1 h2 => ⟨f1 a (by omega) (by omega) (by omega), f2 a (by omega)⟩), M1, c3.kept (f1 _ (by omega) (by omega) (by omega)) (f1 _ (by omega) (by omega) (by omega)) (f2 _ (by omega))⟩⟩, by rw [hq1]; exact ⟨i5, i6, i7⟩, fun k hk => (hP k hk).kept (fun a h1 h2 => ⟨f1 a (by omega) (by omega) (by omega), f2 a (by omega)⟩)⟩, B1⟩
    refine V_run D [] 14 rfl ⟨hmT, trivial⟩ ?_
    rw [hg.2.1.2.1]
    refine V_eq D 26 rfl rfl (by constructor <;> omega) (fun q2 => ?_) (fun q2 => ?_)
    · exact V_loc [some (.inr (.inr q)), some (.inr (.inr m)), some (.inl (p : Int)), some (.inr (.inr b))] rfl (reset (Or.inl q2))
    · refine V_run D [] 23 rfl ⟨hmT, trivial⟩ ?_
      rw [hg.2.1.2.1]
      refine V_ile D 47 rfl rfl (by constructor <;> omega) (by omega) (fun q3 => ?_) (fun q3 => ?_)
      · have pp := hP p hp
        have pk := hs.2.2.2.2 p hp
        have har : ∃ k, 3 ≤ k ∧ xAr T (N q 1) k (p : Int) := ⟨6, by omega, 10, by rw [a3]; exact a6, by omega, by omega⟩
        have hrn : ∀ w ∈ (s.2.2 p).1, xIn w.1 := fun w hw => by
          obtain ⟨j, hj, e⟩ := List.mem_iff_getElem.mp hw
          have h7 := pk.1
          have h9 := pk.2 j (by omega)
          rw [← e, ← od_get hj]
          rcases Nat.lt_or_ge j (s.2.2 p).2 with h8 | h8
          · have := (h9.2 h8).1; constructor <;> omega
          · rw [h9.1 h8]; decide
        have tail : ∀ (I1 : xI) (N1 : xN) (s' : Sv) (c : Int) (ys : List Int) (k : Nat), k < 8 → (∀ a, (a < q ∨ q + 358 ≤ a) → I1 a = I a ∧ N1 a = N a) → SvAt T I1 N1 q s' → (od (s'.2.2 p).1 k).2 = ys → ys.length ≤ 421 → bat ys 1 = c → tk s g p = (c, ys, s') →
            V Γ E (xQ Γ E (xCg z T (takeP T I N q b (tk s g p))) 0 0) z T I1 N1 0 0 134 (xlv [some (.inr (.inr q)), some (.inr (.inr m)), some (.inl (p : Int)), some (.inr (.inr b)), some (.inr (.inr (q + 98 + 26 * p + 2 + 3 * k)))]) [] := fun I1 N1 s' c ys k hk f1 S1 hys hyl hc et => by
          rw [et]
          obtain ⟨-, -, P1⟩ := _root_.id S1
          obtain ⟨t1, t2, t3, t4⟩ := (P1 p hp).2.2.2.2.2.2.2 k hk
          rw [hys] at t4
          have hB1 : BAt T I1 N1 b 2000 [] := hB.kept (f1 _ (by omega)).1 (f1 _ (by omega)).1 (f1 _ (by omega)).2
          refine V_run D [] 140 rfl ⟨t1, trivial⟩ ?_
          rw [t2]
          refine V_putB (av := [.inr (.inr (q + 98 + 26 * p + 2 + 3 * k + 1))]) (st := []) D mwX0_addAll rfl lkX7_X0_addAll (s_addAll hB1 t4 (by omega)) hB.1 rfl ⟨Nat.le_refl _, Nat.le_refl _⟩ (fun I2 e2 d2 => ?_)
          rw [if_pos (by show 0 + _ ≤ 2000; omega), List.nil_append] at d2
          have t4' : BAt T I2 N1 (q + 98 + 26 * p + 2 + 3 * k + 1) 421 ys := t4.kept (e2 _ (by omega) (by omega)) (e2 _ (by omega) (by omega)) rfl
          refine V_run D [] 149 rfl ⟨t1, trivial⟩ ?_
          rw [t2]
          refine V_askV (av := [.inl 1]) (st := []) D mwX0_at rfl lkX7_X0_at (s_at t4' (by omega)) t4.1 rfl ⟨Nat.le_refl _, Nat.le_refl _⟩ ?_
          exact V_iret D rfl rfl ⟨rfl, rfl, by rw [hc], fun a h1 h2 h3 => by rw [e2 a h2 h3]; exact (f1 a h1).1, fun a h1 => (f1 a h1).2, S1.kept (fun a h1 h2 => ⟨e2 a (by omega) (by omega), rfl⟩), d2⟩
        refine V_run D [] 57 rfl ⟨hmT, har, a1, trivial⟩ ?_
        rw [a3, Int.toNat_natCast, a7 p hp, hg.2.1.2.2]
        refine V_askV (av := [.inl g.2.2.1]) (st := []) D mwX3_find rfl lkX7_X3_find (s_pfind pp (by constructor <;> omega) hrn) pp.1 rfl ⟨Nat.le_refl _, Nat.le_refl _⟩ ?_
        by_cases hf : fi g.2.2.1 (s.2.2 p).1 < 8
        · have ef : pref (q + 98 + 26 * p) (s.2.2 p).1 g.2.2.1 = q + 98 + 26 * p + 2 + 3 * fi g.2.2.1 (s.2.2 p).1 := by unfold pref; rw [if_pos hf]
          rw [ef]
          have hfl : fi g.2.2.1 (s.2.2 p).1 < (s.2.2 p).1.length := by rw [pk.1]; exact hf
          have hat := fi_at hfl
          have h9 := pk.2 _ hf
          have h8 : fi g.2.2.1 (s.2.2 p).1 < (s.2.2 p).2 := by
            rcases Nat.lt_or_ge (fi g.2.2.1 (s.2.2 p).1) (s.2.2 p).2 with h | h
            · exact h
            · have := h9.1 h; omega
          have et : tk s g p = (bat (od (s.2.2 p).1 (fi g.2.2.1 (s.2.2 p).1)).2 1, (od (s.2.2 p).1 (fi g.2.2.1 (s.2.2 p).1)).2, (s.1, (s.2.1.1, s.2.1.2.1 + 1, s.2.1.2.2), s.2.2)) := by unfold tk; rw [if_neg (by omega), if_neg (by omega), if_pos hf]
          refine V_run D [] 64 rfl trivial ?_
          refine V_null D 80 rfl rfl (fun q4 => absurd q4 (by omega)) (fun q4 => ?_)
          refine V_run D [134] 134 rfl ⟨a1, a1, trivial⟩ ?_
          refine V_loc [some (.inr (.inr q)), some (.inr (.inr m)), some (.inl (p : Int)), some (.inr (.inr b)), some (.inr (.inr (q + 98 + 26 * p + 2 + 3 * fi g.2.2.1 (s.2.2 p).1)))] rfl ?_
          refine tail _ _ (s.1, (s.2.1.1, s.2.1.2.1 + 1, s.2.1.2.2), s.2.2) _ _ _ hf (fun a h1 => ⟨xup_ne (by omega), rfl⟩) ⟨⟨_, _, _, hC.own (by decide) _⟩, ⟨?_, ?_, ?_⟩, fun k hk => (hP k hk).kept (fun a h1 h2 => ⟨xup_ne (by omega), rfl⟩)⟩ rfl (h9.2 h8).2.2.2 rfl et
          · rw [xup_at]; exact i5
          · rw [xup_at]; unfold va_up; rw [if_pos rfl, i6]
          · rw [xup_at]; exact i7
        · have ef : pref (q + 98 + 26 * p) (s.2.2 p).1 g.2.2.1 = 0 := by unfold pref; rw [if_neg hf]
          rw [ef]
          have et : tk s g p = ((act s.1.1 s.1.2 g).1.1, wr (ansM s g), ((act s.1.1 s.1.2 g).2, (s.2.1.1 + 1, s.2.1.2.1, (if g.1 = 0 then s.2.1.2.2 else (s.2.1.2.2 + 1) % 65536)), va_up s.2.2 p ((s.2.2 p).1.set ((s.2.2 p).2 % 8) (g.2.2.1, wr (ansM s g)), (s.2.2 p).2 + 1))) := by unfold tk; rw [if_neg (by omega), if_neg (by omega), if_neg hf]
          obtain ⟨ok1, ok2⟩ := ansM_ok hs hok hos
          refine V_run D [] 64 rfl trivial ?_
          refine V_null D 80 rfl rfl (fun q4 => ?_) (fun q4 => absurd q4 (by omega))
          have hmI : xup I q 5 (I q 5 + 1) m = I m := xup_ne (by omega)
          refine V_run D [] 100 rfl ⟨hmT, har, a1, a1, a1, trivial⟩ ?_
          rw [a3, Int.toNat_natCast, a7 p hp, hmI, hg.2.1.2.2]
          generalize hI0 : xup I q 5 (I q 5 + 1) = I0
          have o0 : ∀ a, a ≠ q → I0 a = I a := fun a h => by rw [← hI0, xup_ne h]
          have q0 : ∀ j, j ≠ 5 → I0 q j = I q j := fun j hj => by rw [← hI0, xup_at]; unfold va_up; rw [if_neg hj]
          have q5 : I0 q 5 = s.2.1.1 + 1 := by rw [← hI0, xup_at]; unfold va_up; rw [if_pos rfl, i5]
          have C0 : SvC T I0 N q s.1.1 s.1.2 a0 v0 n0 := by rw [← hI0]; exact hC.own (by decide) _
          have pp0 : PAt T I0 N (q + 98 + 26 * p) (s.2.2 p).1 ((s.2.2 p).2 % 8) := pp.kept (fun a h1 h2 => ⟨o0 a (by omega), rfl⟩)
          refine V_chV (av := [.inl g.2.2.1]) (st := []) D mwX3_remember rfl lkX7_X3_remember (s_remember pp0) pp.1 rfl ⟨Nat.le_refl _, Nat.le_refl _⟩ (fun r I1 N1 P1 => ?_)
          obtain ⟨rfl, f1, pp1⟩ := P1
          have C1 : SvC T I1 N1 q s.1.1 s.1.2 a0 v0 n0 := C0.kept (fun a h1 h2 => f1 a (by omega))
          have hg1 : MAt T I1 N1 m 20 g lat := hg.kept (fun a h1 h2 => ⟨by rw [(f1 a (by omega)).1, o0 a (by omega)], (f1 a (by omega)).2⟩)
          have hq1 : I1 q = I0 q := (f1 q (by omega)).1
          refine V_run D [] 107 rfl trivial ?_
          refine V_chV (av := [.inr (.inr m)]) (st := []) D mwX7_beginAnswer rfl lkX7_X7_beginAnswer (s_beginAnswer C1 hg1 (by omega) hok (by rw [hq1, q0 7 (by decide)]; exact i7) hs.2.2.2.1) a1 rfl ⟨Nat.le_refl _, Nat.le_refl _⟩ (fun r I2 N2 P2 => ?_)
          obtain ⟨rfl, f2, j2, j7, C2⟩ := P2
          have hg2 : MAt T I2 N2 m 20 g lat := RCh.mat hg1 f2 (by omega)
          obtain ⟨⟨-, -, -, d4, -⟩, -⟩ := _root_.id C2
          refine V_run D [] 116 rfl ⟨a1, trivial⟩ ?_
          rw [d4]
          refine V_chV (av := [.inr (.inr m)]) (st := [.inr (.inr (q + 84))]) D mwX7_decide rfl lkX7_X7_decide (s_decide C2 hg2 (by omega) hok (by omega) hfit hs.2.2.1 (fun x hx => by have := (hs.1 x hx).1; constructor <;> omega)) a1 rfl ⟨Nat.le_refl _, Nat.le_refl _⟩ (fun r I3 N3 P3 => ?_)
          obtain ⟨v3, n3, rfl, F3, C3⟩ := P3
          obtain ⟨⟨-, -, -, d43, -⟩, -, -, ⟨lat3, m3⟩, -⟩ := _root_.id C3
          have f123 : ∀ a, (a < q ∨ q + 98 ≤ a) → I3 a = I1 a ∧ N3 a = N1 a := fun a ha => ⟨((F3.1 a ha).1).trans (f2 a ha).1, ((F3.1 a ha).2).trans (f2 a ha).2⟩
          have pp3 : PAt T I3 N3 (q + 98 + 26 * p) ((s.2.2 p).1.set ((s.2.2 p).2 % 8) (g.2.2.1, [])) (((s.2.2 p).2 % 8 + 1) % 8) := pp1.kept (fun a h1 h2 => f123 a (by omega))
          have h8 : (s.2.2 p).2 % 8 < 8 := by omega
          obtain ⟨t1, t2, t3, t4⟩ := pp3.2.2.2.2.2.2.2 ((s.2.2 p).2 % 8) h8
          have eod : od ((s.2.2 p).1.set ((s.2.2 p).2 % 8) (g.2.2.1, ([] : List Int))) ((s.2.2 p).2 % 8) = (g.2.2.1, []) := by rw [od_set (by rw [pk.1]; exact h8), if_pos rfl]
          rw [eod] at t4
          refine V_run D [] 131 rfl ⟨t1, a1, m3.1.1, trivial⟩ ?_
          rw [d43, t2]
          have m4 := m3.setCode (act s.1.1 s.1.2 g).1.1
          have em : ((((if g.1 = 0 then 2 else 1), 0, (if g.1 = 0 then g.2.2.1 else s.2.1.2.2), g.2.2.2.1, (act s.1.1 s.1.2 g).1.2.1, (act s.1.1 s.1.2 g).1.2.2) : Msg).1, (act s.1.1 s.1.2 g).1.1, (((if g.1 = 0 then 2 else 1), 0, (if g.1 = 0 then g.2.2.1 else s.2.1.2.2), g.2.2.2.1, (act s.1.1 s.1.2 g).1.2.1, (act s.1.1 s.1.2 g).1.2.2) : Msg).2.2.1, g.2.2.2.1, (act s.1.1 s.1.2 g).1.2.1, (act s.1.1 s.1.2 g).1.2.2) = ansM s g := rfl
          have m5 : MAt T (xup I3 (q + 84) 6 (act s.1.1 s.1.2 g).1.1) N3 (q + 84) 2 (ansM s g) lat3 := m4
          generalize hI4 : xup I3 (q + 84) 6 (act s.1.1 s.1.2 g).1.1 = I4 at m5
          have o4 : ∀ a, a ≠ q + 84 → I4 a = I3 a := fun a h => by rw [← hI4, xup_ne h]
          have C4 := C3.ans (I' := I4) (N' := N3) (fun a ha => ⟨o4 a (by omega), rfl⟩) ⟨_, m5⟩
          have t5 : BAt T I4 N3 (q + 98 + 26 * p + 2 + 3 * ((s.2.2 p).2 % 8) + 1) 421 [] := t4.kept (o4 _ (by omega)) (o4 _ (by omega)) rfl
          refine V_putB (av := [.inr (.inr (q + 98 + 26 * p + 2 + 3 * ((s.2.2 p).2 % 8) + 1))]) (st := []) D mwX1_writeBehind rfl lkX7_X1_writeBehind (s_behind m5 ok1 t5 (by omega) (by show 0 + _ ≤ 421; omega)) m3.1.1 rfl ⟨Nat.le_refl _, Nat.le_refl _⟩ (fun I5 e5 d5 => ?_)
          rw [List.nil_append] at d5
          have pp4 : PAt T I4 N3 (q + 98 + 26 * p) ((s.2.2 p).1.set ((s.2.2 p).2 % 8) (g.2.2.1, [])) (((s.2.2 p).2 % 8 + 1) % 8) := pp3.kept (fun a h1 h2 => ⟨o4 a (by omega), rfl⟩)
          have pp5 := pp4.setBytes h8 e5 d5
          rw [eod, List.set_set] at pp5
          refine V_loc [some (.inr (.inr q)), some (.inr (.inr m)), some (.inl (p : Int)), some (.inr (.inr b)), some (.inr (.inr (q + 98 + 26 * p + 2 + 3 * ((s.2.2 p).2 % 8))))] rfl ?_
          have q5' : I5 q = I3 q := by rw [e5 q (by omega) (by omega), o4 q (by omega)]
          have hup : va_up s.2.2 p ((s.2.2 p).1.set ((s.2.2 p).2 % 8) (g.2.2.1, wr (ansM s g)), (s.2.2 p).2 + 1) p = ((s.2.2 p).1.set ((s.2.2 p).2 % 8) (g.2.2.1, wr (ansM s g)), (s.2.2 p).2 + 1) := by unfold va_up; rw [if_pos rfl]
          refine tail I5 N3 _ _ _ ((s.2.2 p).2 % 8) h8 (fun a h1 => ⟨?_, ?_⟩) ⟨⟨_, _, _, C4.2.kept (fun a h1 h2 => ⟨e5 a (by omega) (by omega), rfl⟩)⟩, ⟨?_, ?_, ?_⟩, fun k hk => ?_⟩ ?_ ok2 (bat_wr _) et
          · rw [e5 a (by omega) (by omega), o4 a (by omega), (f123 a (by omega)).1, (f1 a (by omega)).1, o0 a (by omega)]
          · rw [(f123 a (by omega)).2, (f1 a (by omega)).2]
          · rw [q5', F3.2 5 (by decide), j2 5 (by decide), hq1]; exact q5
          · rw [q5', F3.2 6 (by decide), j2 6 (by decide), hq1, q0 6 (by decide)]; exact i6
          · rw [q5', F3.2 7 (by decide)]; exact j7
          · by_cases hkp : k = p
            · subst hkp
              dsimp only
              rw [hup]
              dsimp only
              rw [show ((s.2.2 k).2 + 1) % 8 = ((s.2.2 k).2 % 8 + 1) % 8 by omega]
              exact pp5
            · dsimp only
              have hne : va_up s.2.2 p ((s.2.2 p).1.set ((s.2.2 p).2 % 8) (g.2.2.1, wr (ansM s g)), (s.2.2 p).2 + 1) k = s.2.2 k := by unfold va_up; rw [if_neg hkp]
              rw [hne]
              exact (hP k hk).kept (fun a h1 h2 => ⟨by rw [e5 a (by omega) (by omega), o4 a (by omega), (f123 a (by omega)).1, (f1 a (by omega)).1, o0 a (by omega)], by rw [(f123 a (by omega)).2, (f1 a (by omega)).2]⟩)
          · dsimp only
            rw [hup, od_set (by rw [pk.1]; exact h8), if_pos rfl]
      · exact V_loc [some (.inr (.inr q)), some (.inr (.inr m)), some (.inl (p : Int)), some (.inr (.inr b))] rfl (reset (Or.inr (by omega)))
  · have et : tk s g p = (-1, [], s) := by unfold tk; rw [if_pos (by omega)]
    rw [et]
    refine V_run D [] 9 rfl trivial ?_
    exact V_iret D rfl rfl ⟨rfl, rfl, rfl, fun _ _ _ _ => rfl, fun _ _ => rfl, hS, hB⟩
end XSv8
