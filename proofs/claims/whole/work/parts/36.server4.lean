section XSv4
variable {Γ : xG} {E : xE} {z : Nat} {T : xY} {I : xI} {N : xN} {q o m most : Nat} {n : Int} {v : List Int} {g : Msg} {lat : Option Nat} {w : Res} {ty co id : Int} {tok : List Int}
theorem RsAt.ank (h : RsAt T I N o w) {I' : xI} {N' : xN} (hc : RCh (q + 84) (q + 96) I N I' N') (ho : o + 5 ≤ q + 84) : RsAt T I' N' o w := h.kept (fun a _ _ => hc a (by omega))
theorem s_answerBlock {x : Int} (hT : T q = some (.inr 7)) (hN : N q 2 = q + 84) (h : MAt T I N (q + 84) 2 (ty, co, id, tok, [], []) lat) (hw : RsAt T I N o w) (ho : q < o ∧ o + 5 ≤ q + 84) (hx : 0 ≤ x ∧ x ≤ 1048575 ∧ x % 8 ≤ 6) :
    Spec mX7_answerBlock 3 [.inr (.inr q), .inl x, .inr (.inr o)] z T I N 0 0 (xCg z T (AnP T I N q (some (.inl (blk x w).1)) (ty, co, id, tok, (blk x w).2.1, (blk x w).2.2))) := by
  obtain ⟨w1, w2, w3, w4, w5, w6, w7⟩ := _root_.id hw
  have hL := blL_rng hx.2.2
  have hlen := w7.2.2.2.2.1
  have e7 : zAnd x 7 = x % 8 := by rw [zAndM _ 3 7 (by omega) (by decide)]; rfl
  have e4 : zShr x 4 = x / 16 := by rw [show (4 : Int) = ((4 : Nat) : Int) from rfl, zShr_nat (by omega) (by omega)]; rfl
  have hst : 0 ≤ x / 16 * blL x ∧ x / 16 * blL x ≤ 67108864 := by
    have h1 : x / 16 ≤ 65535 := by omega
    have h0 : 0 ≤ x / 16 := by omega
    constructor
    · exact Int.mul_nonneg h0 (by omega)
    · have := Int.mul_le_mul h1 hL.2 (by omega) (by omega); omega
  refine Spec_of okX7_answerBlock (by decide) (by decide) (Nat.le_of_ble_eq_true rfl) fun Γ E D => ?_
  refine V_run D [] 37 rfl ⟨by rw [w3]; exact w7.1, w1, trivial⟩ ?_
  rw [w3, w7.2.2.2.1, e7, e4, blL_shl hx.2.2]
  have main2 : ¬ (0 < x / 16 ∧ (w.2.1.length : Int) - x / 16 * blL x ≤ 0) → V Γ E (xQ Γ E (xCg z T (AnP T I N q (some (.inl (blk x w).1)) (ty, co, id, tok, (blk x w).2.1, (blk x w).2.2))) 0 0) z T I N 0 0 72 (xlv [some (.inr (.inr q)), some (.inl x), some (.inr (.inr o)), some (.inl (x % 8)), some (.inl (blL x)), some (.inl (x / 16)), some (.inl (x / 16 * blL x)), some (.inl ((w.2.1.length : Int) - x / 16 * blL x)), some (.inl (blT x w.2.1.length))]) [] := fun hc => by
    have eb : blk x w = (69, [(4, hib w.2.2 2), (23, hib (blT x w.2.1.length) (fwb (blT x w.2.1.length)))], (w.2.1.drop (x / 16 * blL x).toNat).take (if blL x < (w.2.1.length : Int) - x / 16 * blL x then blL x else (w.2.1.length : Int) - x / 16 * blL x).toNat) := by unfold blk; rw [if_neg hc]
    rw [eb]
    have hbT : 0 ≤ blT x w.2.1.length ∧ blT x w.2.1.length < 16777216 := by unfold blT; split <;> omega
    have hfw := fwb_cases hbT.1
    refine V_run D [] 79 rfl ⟨w1, trivial⟩ ?_
    rw [w5]
    refine V_chV (av := [.inl 4, .inl w.2.2, .inl ((2 : Nat) : Int)]) (st := []) D mwX7_addNumber rfl lkX7_X7_addNumber (s_addNumber hT hN h (by simp) (by omega) (fun _ h => nomatch h) (by omega)) hT rfl ⟨Nat.le_refl _, Nat.le_refl _⟩ (fun r I1 N1 P1 => ?_)
    obtain ⟨rfl, c1, lat1, m1⟩ := P1
    refine V_run D [] 89 rfl trivial ?_
    refine V_askS (av := [.inl (blT x w.2.1.length)]) (st := [.inl (blT x w.2.1.length), .inl 23, .inr (.inr q)]) D mwX7_fewestBytes rfl lkX7_X7_fewestBytes (s_fewest (by omega)) rfl ⟨Nat.le_refl _, Nat.le_refl _⟩ ?_
    have hN1 : N1 q 2 = q + 84 := by rw [(c1 q (by omega)).2]; exact hN
    refine V_chV (av := [.inl 23, .inl (blT x w.2.1.length), .inl (fwb (blT x w.2.1.length) : Int)]) (st := []) D mwX7_addNumber rfl lkX7_X7_addNumber (s_addNumber hT hN1 m1 (by simp) (by omega) (fun w hw => by simp at hw; rw [hw]; show 0 ≤ (4 : Int) ∧ (4 : Int) ≤ 23; decide) (by omega)) hT rfl ⟨Nat.le_refl _, Nat.le_refl _⟩ (fun r I2 N2 P2 => ?_)
    obtain ⟨rfl, c2, lat2, m2⟩ := P2
    have c12 := c1.trans c2
    have hN2 : N2 q 2 = q + 84 := by rw [(c2 q (by omega)).2]; exact hN1
    have hw2 := hw.ank c12 ho.2
    obtain ⟨u1, u2, u3, u4, u5, u6, u7⟩ := hw2
    have hb2 := m2.2.2.2.1
    have hq2 := m2.1.2.2.1
    refine V_run D [] 112 rfl ⟨w1, by rw [hN2]; exact m2.1.1, hT, trivial⟩ ?_
    rw [hN2, hq2, u3]
    refine V_min D rfl lkX7_min rfl (by constructor <;> constructor <;> omega) ⟨Nat.le_refl _, Nat.le_refl _⟩ ?_
    have hmn : xIn (if blL x < (w.2.1.length : Int) - x / 16 * blL x then blL x else (w.2.1.length : Int) - x / 16 * blL x) := by split <;> constructor <;> omega
    refine V_putB (av := [.inr (.inr (o + 3)), .inl (x / 16 * blL x), .inl _]) (st := []) D mwX0_addPart rfl lkX7_X0_addPart (s_addPart hb2 u7 (by omega) (by omega) hmn) hb2.1 rfl ⟨Nat.le_refl _, Nat.le_refl _⟩ (fun I3 e3 d3 => ?_)
    have h16 : ¬ 0 < x / 16 → x / 16 * blL x = 0 := fun h => by rw [show x / 16 = 0 by omega, Int.zero_mul]
    have hm2 : 0 ≤ (if blL x < (w.2.1.length : Int) - x / 16 * blL x then blL x else (w.2.1.length : Int) - x / 16 * blL x) ∧ x / 16 * blL x + (if blL x < (w.2.1.length : Int) - x / 16 * blL x then blL x else (w.2.1.length : Int) - x / 16 * blL x) ≤ w.2.1.length ∧ ((0 : Nat) : Int) + (if blL x < (w.2.1.length : Int) - x / 16 * blL x then blL x else (w.2.1.length : Int) - x / 16 * blL x) ≤ ((400 : Nat) : Int) := by
      by_cases hp : 0 < x / 16
      · split <;> omega
      · have := h16 hp
        split <;> omega
    rw [if_pos ⟨hst.1, hm2⟩] at d3
    have m3 := m2.setPay e3 d3
    refine V_run D [] 120 rfl trivial ?_
    refine V_iret D rfl rfl ⟨rfl, rfl, rfl, fun a ha => ⟨?_, (c12 a ha).2⟩, _, m3⟩
    rw [e3 a (by omega) (by omega)]; exact (c12 a ha).1
  have main : ¬ (0 < x / 16 ∧ (w.2.1.length : Int) - x / 16 * blL x ≤ 0) → V Γ E (xQ Γ E (xCg z T (AnP T I N q (some (.inl (blk x w).1)) (ty, co, id, tok, (blk x w).2.1, (blk x w).2.2))) 0 0) z T I N 0 0 49 (xlv [some (.inr (.inr q)), some (.inl x), some (.inr (.inr o)), some (.inl (x % 8)), some (.inl (blL x)), some (.inl (x / 16)), some (.inl (x / 16 * blL x)), some (.inl ((w.2.1.length : Int) - x / 16 * blL x))]) [] := fun hc => by
    refine V_run D [] 58 rfl trivial ?_
    refine V_ile D 66 rfl rfl (by omega) (by omega) (fun q1 => ?_) (fun q1 => ?_)
    · refine V_run D [72] 72 rfl trivial ?_
      refine V_loc [some (.inr (.inr q)), some (.inl x), some (.inr (.inr o)), some (.inl (x % 8)), some (.inl (blL x)), some (.inl (x / 16)), some (.inl (x / 16 * blL x)), some (.inl ((w.2.1.length : Int) - x / 16 * blL x)), some (.inl (16 * (x / 16) + 0 + x % 8))] rfl ?_
      have e : 16 * (x / 16) + 0 + x % 8 = blT x w.2.1.length := by unfold blT; rw [if_neg (by omega)]
      rw [e]
      exact main2 hc
    · refine V_run D [72] 72 rfl trivial ?_
      refine V_loc [some (.inr (.inr q)), some (.inl x), some (.inr (.inr o)), some (.inl (x % 8)), some (.inl (blL x)), some (.inl (x / 16)), some (.inl (x / 16 * blL x)), some (.inl ((w.2.1.length : Int) - x / 16 * blL x)), some (.inl (16 * (x / 16) + 8 + x % 8))] rfl ?_
      have e : 16 * (x / 16) + 8 + x % 8 = blT x w.2.1.length := by unfold blT; rw [if_pos (by omega)]
      rw [e]
      exact main2 hc
  refine V_le D 49 rfl rfl (by omega) (fun q1 => ?_) (fun q1 => ?_)
  · refine V_loc [some (.inr (.inr q)), some (.inl x), some (.inr (.inr o)), some (.inl (x % 8)), some (.inl (blL x)), some (.inl (x / 16)), some (.inl (x / 16 * blL x)), some (.inl ((w.2.1.length : Int) - x / 16 * blL x))] rfl ?_
    exact main (by omega)
  · refine V_run D [] 42 rfl trivial ?_
    refine V_gt D 49 rfl rfl (by omega) (fun q2 => ?_) (fun q2 => ?_)
    · refine V_loc [some (.inr (.inr q)), some (.inl x), some (.inr (.inr o)), some (.inl (x % 8)), some (.inl (blL x)), some (.inl (x / 16)), some (.inl (x / 16 * blL x)), some (.inl ((w.2.1.length : Int) - x / 16 * blL x))] rfl ?_
      exact main (by omega)
    · refine V_run D [] 48 rfl trivial ?_
      have eb : blk x w = (130, [], []) := by unfold blk; rw [if_pos (by omega)]
      rw [eb]
      exact V_iret D rfl rfl ⟨rfl, rfl, rfl, RCh.rf, _, h⟩
/-- what a block's number says, where no option is bad -/
theorem hBad_23 {os : List Opt} (h : hBad os = false) (hb : ∀ q ∈ os, BsOk q.2) {i : Nat} (hi : i < os.length) (hn : (od os i).1 = 23) : 0 ≤ wn (od os i).2 ∧ wn (od os i).2 ≤ 1048575 ∧ wn (od os i).2 % 8 ≤ 6 := by
  unfold hBad at h
  simp only [Bool.or_eq_false_iff] at h
  have h1 := h.1.1
  rw [List.any_eq_false] at h1
  have hm : od os i ∈ os := by rw [od_get hi]; exact List.getElem_mem _
  have h2 := h1 _ hm
  have h3 := wn_rng (hb _ hm)
  unfold oBad at h2
  rw [hn, if_neg (by decide), if_pos rfl] at h2
  simp at h2
  omega
theorem s_answerGet (hT : T q = some (.inr 7)) (hN : N q 2 = q + 84) (h : MAt T I N (q + 84) 2 (ty, co, id, tok, [], []) lat) (hw : RsAt T I N o w) (ho : q < o ∧ o + 5 ≤ q + 84) (hwt : xIn w.2.2) {g : Msg} {lat' : Option Nat} (hg : MAt T I N m 20 g lat') (hm : m + 66 ≤ q ∨ q + 98 ≤ m) (hok : MOk g) (hbad : hBad g.2.2.2.2.1 = false) :
    Spec mX7_answerGet 4 [.inr (.inr q), .inr (.inr m), .inr (.inr o)] z T I N 0 0 (xCg z T (AnP T I N q (some (.inl (getA g.2.2.2.2.1 w).1)) (ty, co, id, tok, (getA g.2.2.2.2.1 w).2.1, (getA g.2.2.2.2.1 w).2.2))) := by
  obtain ⟨w1, w2, w3, w4, w5, w6, w7⟩ := _root_.id hw
  have hr := hok.2.2.2.2.1.xin (by omega)
  have hmT := hg.1.1
  have hlen := w7.2.2.2.2.1
  refine Spec_of okX7_answerGet (by decide) (by decide) (Nat.le_of_ble_eq_true rfl) fun Γ E D => ?_
  refine V_run D [] 1 rfl trivial ?_
  refine V_nonnull D 8 rfl rfl (fun q1 => ?_) (fun q1 => absurd q1 (by omega))
  refine V_run D [] 13 rfl ⟨w1, trivial⟩ ?_
  rw [w5]
  refine V_askS (av := [.inr (.inr m), .inl w.2.2]) (st := []) D mwX7_knowsTag rfl lkX7_X7_knowsTag (s_knows hg hwt hr) rfl ⟨Nat.le_refl _, Nat.le_refl _⟩ ?_
  refine V_eq D 32 rfl rfl (b01_in _) (fun q2 => ?_) (fun q2 => ?_)
  · rw [b01_0] at q2
    refine V_run D [] 35 rfl trivial ?_
    refine V_askV (av := [.inl 23]) (st := []) D mwX1_first rfl lkX7_X1_first (s_first hg (by omega) hr) hmT rfl ⟨Nat.le_refl _, Nat.le_refl _⟩ ?_
    by_cases c : fi 23 g.2.2.2.2.1 < g.2.2.2.2.1.length
    · obtain ⟨⟨p1, p2, p3, p4⟩, o2, o3⟩ := hg.opt c
      have h23 := hBad_23 hbad (fun q hq => (hok.2.2.2.2.1.mem (by omega) q hq).2.2.1) c (fi_at c)
      have eg : getA g.2.2.2.2.1 w = blk (wn (od g.2.2.2.2.1 (fi 23 g.2.2.2.2.1)).2) w := by unfold getA; rw [q2, if_neg (by decide), if_pos c]
      rw [eg, oref_fi c]
      refine V_run D [] 40 rfl trivial ?_
      refine V_null D 57 rfl rfl (fun q3 => absurd q3 (by omega)) (fun q3 => ?_)
      refine V_run D [] 48 rfl ⟨p1, trivial⟩ ?_
      rw [p2]
      refine V_askV (av := []) (st := [.inr (.inr q)]) D mwX0_wholeNumber rfl lkX7_X0_wholeNumber (s_whole p4) p4.1 rfl ⟨Nat.le_refl _, Nat.le_refl _⟩ ?_
      refine V_run D [] 53 rfl trivial ?_
      refine V_chV (av := [.inl (wn (od g.2.2.2.2.1 (fi 23 g.2.2.2.2.1)).2), .inr (.inr o)]) (st := []) D mwX7_answerBlock rfl lkX7_X7_answerBlock (s_answerBlock hT hN h hw ho h23) hT rfl ⟨Nat.le_refl _, Nat.le_refl _⟩ (fun r I1 N1 P1 => ?_)
      obtain ⟨rfl, P2⟩ := P1
      exact V_iret D rfl rfl ⟨rfl, rfl, rfl, P2⟩
    · rw [oref_no c]
      refine V_run D [] 40 rfl trivial ?_
      refine V_null D 57 rfl rfl (fun q3 => ?_) (fun q3 => absurd q3 (by omega))
      refine V_run D [] 66 rfl ⟨by rw [w3]; exact w7.1, w1, trivial⟩ ?_
      rw [w3, w7.2.2.2.1]
      refine V_ile D 76 rfl rfl (by omega) (by omega) (fun q4 => ?_) (fun q4 => ?_)
      · have eg : getA g.2.2.2.2.1 w = (69, [(4, hib w.2.2 2)], w.2.1) := by unfold getA; rw [q2, if_neg (by decide), if_neg c, if_neg (by omega)]
        rw [eg]
        refine V_run D [] 83 rfl ⟨w1, trivial⟩ ?_
        rw [w5]
        refine V_chV (av := [.inl 4, .inl w.2.2, .inl ((2 : Nat) : Int)]) (st := []) D mwX7_addNumber rfl lkX7_X7_addNumber (s_addNumber hT hN h (by simp) (by omega) (fun _ h => nomatch h) (by omega)) hT rfl ⟨Nat.le_refl _, Nat.le_refl _⟩ (fun r I1 N1 P1 => ?_)
        obtain ⟨rfl, c1, lat1, m1⟩ := P1
        have hN1 : N1 q 2 = q + 84 := by rw [(c1 q (by omega)).2]; exact hN
        obtain ⟨u1, u2, u3, u4, u5, u6, u7⟩ := hw.ank c1 ho.2
        have hb2 := m1.2.2.2.1
        refine V_run D [] 97 rfl ⟨w1, by rw [hN1]; exact m1.1.1, hT, trivial⟩ ?_
        rw [hN1, m1.1.2.2.1, u3]
        refine V_putB (av := [.inr (.inr (o + 3))]) (st := []) D mwX0_addAll rfl lkX7_X0_addAll (s_addAll hb2 u7 (by omega)) hb2.1 rfl ⟨Nat.le_refl _, Nat.le_refl _⟩ (fun I3 e3 d3 => ?_)
        rw [if_pos (by simp; omega)] at d3
        have m3 := m1.setPay e3 d3
        refine V_run D [] 102 rfl trivial ?_
        refine V_iret D rfl rfl ⟨rfl, rfl, rfl, fun a ha => ⟨?_, (c1 a ha).2⟩, _, m3⟩
        rw [e3 a (by omega) (by omega)]; exact (c1 a ha).1
      · have eg : getA g.2.2.2.2.1 w = blk 2 w := by unfold getA; rw [q2, if_neg (by decide), if_neg c, if_pos (by omega)]
        rw [eg]
        refine V_run D [] 72 rfl trivial ?_
        refine V_chV (av := [.inl 2, .inr (.inr o)]) (st := []) D mwX7_answerBlock rfl lkX7_X7_answerBlock (s_answerBlock hT hN h hw ho (by decide)) hT rfl ⟨Nat.le_refl _, Nat.le_refl _⟩ (fun r I1 N1 P1 => ?_)
        obtain ⟨rfl, P2⟩ := P1
        exact V_iret D rfl rfl ⟨rfl, rfl, rfl, P2⟩
  · have hk : kno g.2.2.2.2.1 w.2.2 = true := by cases hh : kno g.2.2.2.2.1 w.2.2; exact absurd (b01_0.mpr hh) q2; rfl
    have eg : getA g.2.2.2.2.1 w = (67, [(4, hib w.2.2 2)], []) := by unfold getA; rw [hk, if_pos rfl]
    rw [eg]
    refine V_run D [] 26 rfl ⟨w1, trivial⟩ ?_
    rw [w5]
    refine V_chV (av := [.inl 4, .inl w.2.2, .inl ((2 : Nat) : Int)]) (st := []) D mwX7_addNumber rfl lkX7_X7_addNumber (s_addNumber hT hN h (by simp) (by omega) (fun _ h => nomatch h) (by omega)) hT rfl ⟨Nat.le_refl _, Nat.le_refl _⟩ (fun r I1 N1 P1 => ?_)
    obtain ⟨rfl, P2⟩ := P1
    refine V_run D [] 31 rfl trivial ?_
    exact V_iret D rfl rfl ⟨rfl, rfl, rfl, P2⟩
theorem s_answerGetNone (h : MAt T I N (q + 84) 2 g lat) : Spec mX7_answerGet 4 [.inr (.inr q), .inr (.inr m), .inr (.inr 0)] z T I N 0 0 (xCg z T (AnP T I N q (some (.inl 132)) g)) := by
  refine Spec_of okX7_answerGet (by decide) (by decide) (Nat.le_of_ble_eq_true rfl) fun Γ E D => ?_
  refine V_run D [] 1 rfl trivial ?_
  refine V_nonnull D 8 rfl rfl (fun q1 => absurd q1 (by omega)) (fun q1 => ?_)
  refine V_run D [] 7 rfl trivial ?_
  exact V_iret D rfl rfl ⟨rfl, rfl, rfl, RCh.rf, _, h⟩
end XSv4
