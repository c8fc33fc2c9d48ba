/-- what a request does, where its resource stands at k -/
def actK (k : Nat) (rs : List Res) (tags : Int) (g : Msg) : (Int × List Opt × List Int) × (List Res × Int) :=
  if hBad g.2.2.2.2.1 then ((130, [], []), rs, tags) else
  if 4 < g.2.1 then ((133, [], []), rs, tags) else
  if g.2.1 = 1 then ((if k < rs.length then getA g.2.2.2.2.1 (rsd rs k) else (132, [], [])), rs, tags) else
  if fails g.2.2.2.2.1 (if k < rs.length then some (rsd rs k).2.2 else none) then ((140, [], []), rs, tags) else
  if g.2.1 = 2 then (if k < rs.length then (if (rsd rs k).2.1.length + g.2.2.2.2.2.length ≤ 400 then ((68, [(4, hib ((tags + 1) % 65536) 2)], []), rs.set k ((rsd rs k).1, (rsd rs k).2.1 ++ g.2.2.2.2.2, (tags + 1) % 65536), (tags + 1) % 65536) else ((141, [], []), rs, tags)) else ((132, [], []), rs, tags)) else
  if g.2.1 = 3 then (if k < rs.length then ((68, [(4, hib ((tags + 1) % 65536) 2)], []), rs.set k ((rsd rs k).1, g.2.2.2.2.2, (tags + 1) % 65536), (tags + 1) % 65536) else if rs.length < 16 then ((65, [(4, hib ((tags + 1) % 65536) 2)], []), rs ++ [(pth g.2.2.2.2.1, g.2.2.2.2.2, (tags + 1) % 65536)], (tags + 1) % 65536) else ((143, [], []), rs, tags)) else
  ((66, [], []), (if k < rs.length then rs.eraseIdx k else rs), tags)
def act (rs : List Res) (tags : Int) (g : Msg) : (Int × List Opt × List Int) × (List Res × Int) := actK (rfi (pe (pth g.2.2.2.2.1)) rs) rs tags g
def DcP (T : xY) (I : xI) (N : xN) (q : Nat) (ty co id : Int) (tok : List Int) (x : (Int × List Opt × List Int) × (List Res × Int)) : Option xV → xI → xN → Prop := fun rr I' N' => ∃ v n, SvPo T I N q (some (.inl x.1.1)) x.2.1 x.2.2 (ty, co, id, tok, x.1.2.1, x.1.2.2) v n rr I' N'
section XSv6
variable {Γ : xG} {E : xE} {z : Nat} {T : xY} {I : xI} {N : xN} {q o m most : Nat} {n : Int} {v : List Int} {a g : Msg} {lat : Option Nat} {w : Res} {ty co id tags : Int} {tok : List Int} {rs : List Res}
theorem RCh.mat (h : MAt T I N m 20 g lat) {I' : xI} {N' : xN} (hf : RCh q (q + 98) I N I' N') (hm : m + 66 ≤ q ∨ q + 98 ≤ m) : MAt T I' N' m 20 g lat := h.kept (fun a h1 h2 => hf a (by omega))
set_option maxHeartbeats 1000000 in
theorem s_decide (hC : SvC T I N q rs tags (ty, co, id, tok, [], []) v n) (hg : MAt T I N m 20 g lat) (hm : m + 66 ≤ q ∨ q + 98 ≤ m) (hok : MOk g) (hco : 1 ≤ g.2.1) (hfit : (pe (pth g.2.2.2.2.1)).length ≤ 2040) (ht : 0 ≤ tags ∧ tags ≤ 65535) (hts : ∀ x ∈ rs, xIn x.2.2) :
    Spec mX7_decide 5 [.inr (.inr q), .inr (.inr m)] z T I N 0 0 (xCg z T (DcP T I N q ty co id tok (act rs tags g))) := by
  obtain ⟨⟨a1, a2, a3, a4, a5, a6, a7⟩, b1, c1, ⟨lat0, c2⟩, c3⟩ := _root_.id hC
  have hr := hok.2.2.2.2.1.xin (by omega)
  have hmT := hg.1.1
  have hc6 := hg.2.1.2.1
  have hcr := hok.2.1
  refine Spec_of okX7_decide (by decide) (by decide) (Nat.le_of_ble_eq_true rfl) fun Γ E D => ?_
  unfold act
  generalize hkk : rfi (pe (pth g.2.2.2.2.1)) rs = k
  have hkle : k ≤ rs.length := by rw [← hkk]; exact rfi_le _ _
  refine V_run D [] 1 rfl trivial ?_
  refine V_askS (av := [.inr (.inr m)]) (st := []) D mwX7_hasBadOption rfl lkX7_X7_hasBadOption (s_hasBad hg hr) rfl ⟨Nat.le_refl _, Nat.le_refl _⟩ ?_
  refine V_eq D 11 rfl rfl (b01_in _) (fun q1 => ?_) (fun q1 => ?_)
  · rw [b01_0] at q1
    refine V_run D [] 16 rfl ⟨hmT, trivial⟩ ?_
    rw [hc6]
    refine V_ile D 23 rfl rfl (by constructor <;> omega) (by omega) (fun q2 => ?_) (fun q2 => ?_)
    · refine V_run D [] 25 rfl trivial ?_
      refine V_chV (av := [.inr (.inr m)]) (st := []) D mwX7_takePath rfl lkX7_X7_takePath (s_takePath a1 a5 hm hg hr hfit c3) a1 rfl ⟨Nat.le_refl _, Nat.le_refl _⟩ (fun r I1 N1 P1 => ?_)
      obtain ⟨rfl, hN1, e1, f1, p1, B1⟩ := P1
      subst hN1
      have F1 : SvF q I N1 I1 N1 := ⟨fun a ha => ⟨e1 a (by omega) (by omega) (by omega), rfl⟩, f1⟩
      have C1 : SvC T I1 N1 q rs tags (ty, co, id, tok, [], []) (pe (pth g.2.2.2.2.1)) ((pth g.2.2.2.2.1).length : Int) := ⟨⟨a1, a2, a3, a4, a5, a6, a7⟩, p1, c1.kept (fun a h1 h2 => ⟨e1 a (by omega) (by omega) (by omega), rfl⟩), ⟨lat0, c2.kept (fun a h1 h2 => ⟨e1 a (by omega) (by omega) (by omega), rfl⟩)⟩, B1⟩
      have hg1 : MAt T I1 N1 m 20 g lat := RCh.mat hg F1.1 hm
      have hc61 := hg1.2.1.2.1
      obtain ⟨-, -, S1, ⟨lat1, m1⟩, -⟩ := _root_.id C1
      refine V_run D [] 36 rfl ⟨a1, a1, trivial⟩ ?_
      rw [a2, a5]
      refine V_askV (av := [.inr (.inr (q + 96))]) (st := []) D mwX8_find rfl lkX7_X8_find (s_sfind S1 B1) S1.1.1 rfl ⟨Nat.le_refl _, Nat.le_refl _⟩ ?_
      rw [hkk]
      by_cases hk : k < rs.length
      · have er : rref N1 (q + 1) rs (k : Int) = N1 (q + 1 + 1) k := by unfold rref; rw [if_pos (by omega), Int.toNat_natCast]
        rw [er]
        obtain ⟨hx, h1, h2⟩ := S1.res hk
        have hxt : xIn (rsd rs k).2.2 := hts _ (by rw [rsd_get hk]; exact List.getElem_mem _)
        generalize ho : N1 (q + 1 + 1) k = o at hx h1 h2
        refine V_run D [] 45 rfl ⟨hmT, trivial⟩ ?_
        rw [hc61]
        refine V_ine D 55 rfl rfl (by constructor <;> omega) (by omega) (fun q3 => ?_) (fun q3 => ?_)
        · refine V_run D [] 57 rfl trivial ?_
          refine V_askS (av := [.inr (.inr m), .inr (.inr o)]) (st := []) D mwX7_failsCondition rfl lkX7_X7_failsCondition (s_failsSome hg1 hr (by omega) hx.1 hx.2.2.2.2.1 hxt) rfl ⟨Nat.le_refl _, Nat.le_refl _⟩ ?_
          refine V_eq D 67 rfl rfl (b01_in _) (fun q4 => ?_) (fun q4 => ?_)
          · rw [b01_0] at q4
            refine V_run D [] 72 rfl ⟨hmT, trivial⟩ ?_
            rw [hc61]
            refine V_ine D 82 rfl rfl (by constructor <;> omega) (by omega) (fun q5 => ?_) (fun q5 => ?_)
            · refine V_run D [] 87 rfl ⟨hmT, trivial⟩ ?_
              rw [hc61]
              refine V_ine D 99 rfl rfl (by constructor <;> omega) (by omega) (fun q6 => ?_) (fun q6 => ?_)
              · have ea : actK k rs tags g = ((66, [], []), rs.eraseIdx k, tags) := by
                  unfold actK; rw [if_neg (by rw [q1]; decide), if_neg (by omega), if_neg q3, if_pos hk, if_neg (by rw [q4]; decide), if_neg q5, if_neg q6]; rw [if_pos hk]
                rw [ea]
                refine V_run D [] 101 rfl trivial ?_
                refine V_chV (av := [.inr (.inr o)]) (st := []) D mwX7_answerDelete rfl lkX7_X7_answerDelete (by rw [← ho]; exact s_delete C1 hk) a1 rfl ⟨Nat.le_refl _, Nat.le_refl _⟩ (fun r I2 N2 P2 => ?_)
                obtain ⟨rfl, F2, C2⟩ := P2
                exact V_iret D rfl rfl ⟨rfl, rfl, _, _, rfl, F1.trans F2, C2⟩
              · have ea : actK k rs tags g = ((68, [(4, hib ((tags + 1) % 65536) 2)], []), rs.set k ((rsd rs k).1, g.2.2.2.2.2, (tags + 1) % 65536), (tags + 1) % 65536) := by
                  unfold actK; rw [if_neg (by rw [q1]; decide), if_neg (by omega), if_neg q3, if_pos hk, if_neg (by rw [q4]; decide), if_neg q5, if_pos q6]; rw [if_pos hk]
                rw [ea]
                refine V_run D [] 93 rfl trivial ?_
                refine V_chV (av := [.inr (.inr m), .inr (.inr o)]) (st := []) D mwX7_answerPut rfl lkX7_X7_answerPut (s_putFound C1 hk ho.symm hg1 hm ht) a1 rfl ⟨Nat.le_refl _, Nat.le_refl _⟩ (fun r I2 N2 P2 => ?_)
                obtain ⟨rfl, F2, C2⟩ := P2
                refine V_run D [] 104 rfl trivial ?_
                exact V_iret D rfl rfl ⟨rfl, rfl, _, _, rfl, F1.trans F2, C2⟩
            · refine V_run D [] 78 rfl trivial ?_
              by_cases hfl : (rsd rs k).2.1.length + g.2.2.2.2.2.length ≤ 400
              · have ea : actK k rs tags g = ((68, [(4, hib ((tags + 1) % 65536) 2)], []), rs.set k ((rsd rs k).1, (rsd rs k).2.1 ++ g.2.2.2.2.2, (tags + 1) % 65536), (tags + 1) % 65536) := by
                  unfold actK; rw [if_neg (by rw [q1]; decide), if_neg (by omega), if_neg q3, if_pos hk, if_neg (by rw [q4]; decide), if_pos q5]; rw [if_pos hk]; rw [if_pos hfl]
                rw [ea]
                refine V_chV (av := [.inr (.inr m), .inr (.inr o)]) (st := []) D mwX7_answerPost rfl lkX7_X7_answerPost (s_post C1 hk ho.symm hg1 hm hfl ht) a1 rfl ⟨Nat.le_refl _, Nat.le_refl _⟩ (fun r I2 N2 P2 => ?_)
                obtain ⟨rfl, F2, C2⟩ := P2
                exact V_iret D rfl rfl ⟨rfl, rfl, _, _, rfl, F1.trans F2, C2⟩
              · have ea : actK k rs tags g = ((141, [], []), rs, tags) := by
                  unfold actK; rw [if_neg (by rw [q1]; decide), if_neg (by omega), if_neg q3, if_pos hk, if_neg (by rw [q4]; decide), if_pos q5]; rw [if_pos hk]; rw [if_neg hfl]
                rw [ea]
                refine V_chV (av := [.inr (.inr m), .inr (.inr o)]) (st := []) D mwX7_answerPost rfl lkX7_X7_answerPost (s_postLong C1 hk ho.symm hg1 hfl) a1 rfl ⟨Nat.le_refl _, Nat.le_refl _⟩ (fun r I2 N2 P2 => ?_)
                obtain ⟨rfl, F2, C2⟩ := P2
                exact V_iret D rfl rfl ⟨rfl, rfl, _, _, rfl, F1.trans F2, C2⟩
          · have q4' : fails g.2.2.2.2.1 (some (rsd rs k).2.2) = true := by cases hh : fails g.2.2.2.2.1 (some (rsd rs k).2.2); exact absurd (b01_0.mpr hh) q4; rfl
            have ea : actK k rs tags g = ((140, [], []), rs, tags) := by
              unfold actK; rw [if_neg (by rw [q1]; decide), if_neg (by omega), if_neg q3, if_pos hk, if_pos q4']
            rw [ea]
            refine V_run D [] 66 rfl trivial ?_
            exact V_iret D rfl rfl ⟨rfl, rfl, _, _, rfl, F1, C1⟩
        · have ea : actK k rs tags g = (getA g.2.2.2.2.1 (rsd rs k), rs, tags) := by
            unfold actK; rw [if_neg (by rw [q1]; decide), if_neg (by omega), if_pos q3, if_pos hk]
          rw [ea]
          refine V_run D [] 51 rfl trivial ?_
          refine V_chV (av := [.inr (.inr m), .inr (.inr o)]) (st := []) D mwX7_answerGet rfl lkX7_X7_answerGet (s_answerGet a1 a4 m1 hx (by omega) hxt hg1 hm hok q1) a1 rfl ⟨Nat.le_refl _, Nat.le_refl _⟩ (fun r I2 N2 P2 => ?_)
          obtain ⟨rfl, F2, M2⟩ := P2
          have C2 := C1.ans F2 M2
          exact V_iret D rfl rfl ⟨rfl, rfl, _, _, rfl, F1.trans C2.1, C2.2⟩
      · have er : rref N1 (q + 1) rs (k : Int) = 0 := by unfold rref; rw [if_neg (by omega)]
        rw [er]
        refine V_run D [] 45 rfl ⟨hmT, trivial⟩ ?_
        rw [hc61]
        refine V_ine D 55 rfl rfl (by constructor <;> omega) (by omega) (fun q3 => ?_) (fun q3 => ?_)
        · refine V_run D [] 57 rfl trivial ?_
          refine V_askS (av := [.inr (.inr m), .inr (.inr 0)]) (st := []) D mwX7_failsCondition rfl lkX7_X7_failsCondition (s_failsNone hg1 hr) rfl ⟨Nat.le_refl _, Nat.le_refl _⟩ ?_
          refine V_eq D 67 rfl rfl (b01_in _) (fun q4 => ?_) (fun q4 => ?_)
          · rw [b01_0] at q4
            refine V_run D [] 72 rfl ⟨hmT, trivial⟩ ?_
            rw [hc61]
            refine V_ine D 82 rfl rfl (by constructor <;> omega) (by omega) (fun q5 => ?_) (fun q5 => ?_)
            · refine V_run D [] 87 rfl ⟨hmT, trivial⟩ ?_
              rw [hc61]
              refine V_ine D 99 rfl rfl (by constructor <;> omega) (by omega) (fun q6 => ?_) (fun q6 => ?_)
              · have ea : actK k rs tags g = ((66, [], []), rs, tags) := by
                  unfold actK; rw [if_neg (by rw [q1]; decide), if_neg (by omega), if_neg q3, if_neg hk, if_neg (by rw [q4]; decide), if_neg q5, if_neg q6]; rw [if_neg hk]
                rw [ea]
                refine V_run D [] 101 rfl trivial ?_
                refine V_chV (av := [.inr (.inr 0)]) (st := []) D mwX7_answerDelete rfl lkX7_X7_answerDelete (s_deleteNone C1) a1 rfl ⟨Nat.le_refl _, Nat.le_refl _⟩ (fun r I2 N2 P2 => ?_)
                obtain ⟨rfl, F2, C2⟩ := P2
                exact V_iret D rfl rfl ⟨rfl, rfl, _, _, rfl, F1.trans F2, C2⟩
              · refine V_run D [] 93 rfl trivial ?_
                by_cases hl : rs.length < 16
                · have ea : actK k rs tags g = ((65, [(4, hib ((tags + 1) % 65536) 2)], []), rs ++ [(pth g.2.2.2.2.1, g.2.2.2.2.2, (tags + 1) % 65536)], (tags + 1) % 65536) := by
                    unfold actK; rw [if_neg (by rw [q1]; decide), if_neg (by omega), if_neg q3, if_neg hk, if_neg (by rw [q4]; decide), if_neg q5, if_pos q6]; rw [if_neg hk]; rw [if_pos hl]
                  rw [ea]
                  refine V_chV (av := [.inr (.inr m), .inr (.inr 0)]) (st := []) D mwX7_answerPut rfl lkX7_X7_answerPut (s_putNew C1 hl hg1 hm ht) a1 rfl ⟨Nat.le_refl _, Nat.le_refl _⟩ (fun r I2 N2 P2 => ?_)
                  obtain ⟨rfl, F2, C2⟩ := P2
                  refine V_run D [] 104 rfl trivial ?_
                  exact V_iret D rfl rfl ⟨rfl, rfl, _, _, rfl, F1.trans F2, C2⟩
                · have ea : actK k rs tags g = ((143, [], []), rs, tags) := by
                    unfold actK; rw [if_neg (by rw [q1]; decide), if_neg (by omega), if_neg q3, if_neg hk, if_neg (by rw [q4]; decide), if_neg q5, if_pos q6]; rw [if_neg hk]; rw [if_neg hl]
                  rw [ea]
                  refine V_chV (av := [.inr (.inr m), .inr (.inr 0)]) (st := []) D mwX7_answerPut rfl lkX7_X7_answerPut (s_putFullS C1 hl) a1 rfl ⟨Nat.le_refl _, Nat.le_refl _⟩ (fun r I2 N2 P2 => ?_)
                  obtain ⟨rfl, F2, C2⟩ := P2
                  refine V_run D [] 104 rfl trivial ?_
                  exact V_iret D rfl rfl ⟨rfl, rfl, _, _, rfl, F1.trans F2, C2⟩
            · have ea : actK k rs tags g = ((132, [], []), rs, tags) := by
                unfold actK; rw [if_neg (by rw [q1]; decide), if_neg (by omega), if_neg q3, if_neg hk, if_neg (by rw [q4]; decide), if_pos q5]; rw [if_neg hk]
              rw [ea]
              refine V_run D [] 78 rfl trivial ?_
              refine V_chV (av := [.inr (.inr m), .inr (.inr 0)]) (st := []) D mwX7_answerPost rfl lkX7_X7_answerPost (s_postNone C1) a1 rfl ⟨Nat.le_refl _, Nat.le_refl _⟩ (fun r I2 N2 P2 => ?_)
              obtain ⟨rfl, F2, C2⟩ := P2
              exact V_iret D rfl rfl ⟨rfl, rfl, _, _, rfl, F1.trans F2, C2⟩
          · have q4' : fails g.2.2.2.2.1 none = true := by cases hh : fails g.2.2.2.2.1 none; exact absurd (b01_0.mpr hh) q4; rfl
            have ea : actK k rs tags g = ((140, [], []), rs, tags) := by
              unfold actK; rw [if_neg (by rw [q1]; decide), if_neg (by omega), if_neg q3, if_neg hk, if_pos q4']
            rw [ea]
            refine V_run D [] 66 rfl trivial ?_
            exact V_iret D rfl rfl ⟨rfl, rfl, _, _, rfl, F1, C1⟩
        · have ea : actK k rs tags g = ((132, [], []), rs, tags) := by
            unfold actK; rw [if_neg (by rw [q1]; decide), if_neg (by omega), if_pos q3, if_neg hk]
          rw [ea]
          refine V_run D [] 51 rfl trivial ?_
          refine V_chV (av := [.inr (.inr m), .inr (.inr 0)]) (st := []) D mwX7_answerGet rfl lkX7_X7_answerGet (s_answerGetNone m1) a1 rfl ⟨Nat.le_refl _, Nat.le_refl _⟩ (fun r I2 N2 P2 => ?_)
          obtain ⟨rfl, F2, M2⟩ := P2
          have C2 := C1.ans F2 M2
          exact V_iret D rfl rfl ⟨rfl, rfl, _, _, rfl, F1.trans C2.1, C2.2⟩
    · have ea : actK k rs tags g = ((133, [], []), rs, tags) := by
        unfold actK; rw [if_neg (by rw [q1]; decide), if_pos (by omega)]
      rw [ea]
      refine V_run D [] 22 rfl trivial ?_
      exact V_iret D rfl rfl ⟨rfl, rfl, _, _, rfl, SvF.rf, hC⟩
  · have q1' : hBad g.2.2.2.2.1 = true := by cases hh : hBad g.2.2.2.2.1; exact absurd (b01_0.mpr hh) q1; rfl
    have ea : actK k rs tags g = ((130, [], []), rs, tags) := by unfold actK; rw [if_pos q1']
    rw [ea]
    refine V_run D [] 10 rfl trivial ?_
    exact V_iret D rfl rfl ⟨rfl, rfl, _, _, rfl, SvF.rf, hC⟩
end XSv6
