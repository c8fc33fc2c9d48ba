/-- the server without its peers: store, answer, path, how many there are in the path -/
def SvC (T : xY) (I : xI) (N : xN) (q : Nat) (rs : List Res) (tags : Int) (a : Msg) (v : List Int) (n : Int) : Prop :=
  (T q = some (.inr 7) ∧ N q 0 = q + 1 ∧ N q 1 = q + 83 ∧ N q 2 = q + 84 ∧ N q 3 = q + 96 ∧ T (q + 83) = some (.inl (6, 10)) ∧ ∀ k, k < 10 → N (q + 83) k = q + 98 + 26 * k) ∧ I q 4 = n ∧ StAt T I N (q + 1) rs tags ∧ (∃ lat, MAt T I N (q + 84) 2 a lat) ∧ BAt T I N (q + 96) 2040 v
def SvF (q : Nat) (I : xI) (N : xN) (I' : xI) (N' : xN) : Prop := RCh q (q + 98) I N I' N' ∧ ∀ j, j ≠ 4 → I' q j = I q j
def SvPo (T : xY) (I : xI) (N : xN) (q : Nat) (r : Option xV) (rs : List Res) (tags : Int) (a : Msg) (v : List Int) (n : Int) : Option xV → xI → xN → Prop := fun rr I' N' => rr = r ∧ SvF q I N I' N' ∧ SvC T I' N' q rs tags a v n
theorem SvF.rf {q : Nat} {I : xI} {N : xN} : SvF q I N I N := ⟨RCh.rf, fun _ _ => rfl⟩
theorem SvF.trans {q : Nat} {I I' I'' : xI} {N N' N'' : xN} (h : SvF q I N I' N') (h' : SvF q I' N' I'' N'') : SvF q I N I'' N'' := ⟨h.1.trans h'.1, fun j hj => (h'.2 j hj).trans (h.2 j hj)⟩
section XSv5
variable {Γ : xG} {E : xE} {z : Nat} {T : xY} {I : xI} {N : xN} {q o m most : Nat} {n : Int} {v : List Int} {a g : Msg} {lat : Option Nat} {w : Res} {ty co id tags : Int} {tok : List Int} {rs : List Res}
theorem SvC.ans (h : SvC T I N q rs tags a v n) {I' : xI} {N' : xN} {a' : Msg} (hf : RCh (q + 84) (q + 96) I N I' N') (hM : ∃ lat', MAt T I' N' (q + 84) 2 a' lat') : SvF q I N I' N' ∧ SvC T I' N' q rs tags a' v n := by
  obtain ⟨⟨a1, a2, a3, a4, a5, a6, a7⟩, b1, c1, c2, c3⟩ := h
  have hq := hf q (by omega)
  refine ⟨⟨hf.wide (by omega) (by omega), fun j _ => by rw [hq.1]⟩, ⟨a1, by rw [hq.2]; exact a2, by rw [hq.2]; exact a3, by rw [hq.2]; exact a4, by rw [hq.2]; exact a5, a6, fun k hk => by rw [(hf (q + 83) (by omega)).2]; exact a7 k hk⟩, by rw [hq.1]; exact b1, c1.kept (fun a h1 h2 => hf a (by omega)), hM, c3.kept (hf _ (by omega)).1 (hf _ (by omega)).1 (hf _ (by omega)).2⟩
theorem SvC.sto (h : SvC T I N q rs tags a v n) {I' : xI} {N' : xN} {rs' : List Res} {tags' : Int} (hf : RCh (q + 1) (q + 83) I N I' N') (hM : StAt T I' N' (q + 1) rs' tags') : SvF q I N I' N' ∧ SvC T I' N' q rs' tags' a v n := by
  obtain ⟨⟨a1, a2, a3, a4, a5, a6, a7⟩, b1, c1, ⟨lat, c2⟩, c3⟩ := h
  have hq := hf q (by omega)
  refine ⟨⟨hf.wide (by omega) (by omega), fun j _ => by rw [hq.1]⟩, ⟨a1, by rw [hq.2]; exact a2, by rw [hq.2]; exact a3, by rw [hq.2]; exact a4, by rw [hq.2]; exact a5, a6, fun k hk => by rw [(hf (q + 83) (by omega)).2]; exact a7 k hk⟩, by rw [hq.1]; exact b1, hM, ⟨lat, c2.kept (fun a h1 h2 => hf a (by omega))⟩, c3.kept (hf _ (by omega)).1 (hf _ (by omega)).1 (hf _ (by omega)).2⟩
theorem SvC.clearRes (h : SvC T I N q rs tags a v n) {k : Nat} (hk : k < rs.length) {x : List Int} {I' : xI} (hfr : ∀ a, a ≠ N (q + 1 + 1) k + 3 → a ≠ N (q + 1 + 1) k + 4 → I' a = I a) (hB : BAt T I' N (N (q + 1 + 1) k + 3) 400 x) : SvF q I N I' N ∧ SvC T I' N q (rs.set k ((rsd rs k).1, x, (rsd rs k).2.2)) tags a v n := by
  obtain ⟨hx, h1, h2⟩ := h.2.2.1.res hk
  exact h.sto (fun a ha => ⟨hfr a (by omega) (by omega), rfl⟩) (h.2.2.1.setCont hk rfl hfr hB)
theorem rsd_set_eq {rs : List Res} {k : Nat} (hk : k < rs.length) (x : Res) : rsd (rs.set k x) k = x := by rw [rsd_set hk, if_pos rfl]
theorem s_change {k b : Nat} {pay : List Int} {code : Int} (hC : SvC T I N q rs tags (ty, co, id, tok, [], []) v n) (hk : k < rs.length) (ho : o = N (q + 1 + 1) k) (hB : BAt T I N b 400 pay) (hb : b + 2 ≤ q ∨ q + 98 ≤ b) (hfit : (rsd rs k).2.1.length + pay.length ≤ 400) (ht : 0 ≤ tags ∧ tags ≤ 65535) :
    Spec mX7_change 3 [.inr (.inr q), .inr (.inr o), .inr (.inr b), .inl code] z T I N 0 0 (xCg z T (SvPo T I N q (some (.inl code)) (rs.set k ((rsd rs k).1, (rsd rs k).2.1 ++ pay, (tags + 1) % 65536)) ((tags + 1) % 65536) (ty, co, id, tok, [(4, hib ((tags + 1) % 65536) 2)], []) v n)) := by
  obtain ⟨⟨a1, a2, a3, a4, a5, a6, a7⟩, b1, c1, ⟨lat, c2⟩, c3⟩ := _root_.id hC
  obtain ⟨hx, h1, h2⟩ := c1.res hk
  obtain ⟨r1, r2, r3, r4, r5, r6, r7⟩ := _root_.id hx
  rw [← ho] at r1 r2 r3 r7 h1 h2
  refine Spec_of okX7_change (by decide) (by decide) (Nat.le_of_ble_eq_true rfl) fun Γ E D => ?_
  refine V_run D [] 5 rfl ⟨r1, trivial⟩ ?_
  rw [r3]
  refine V_putB (av := [.inr (.inr b)]) (st := []) D mwX0_addAll rfl lkX7_X0_addAll (s_addAll r7 hB (by omega)) r7.1 rfl ⟨Nat.le_refl _, Nat.le_refl _⟩ (fun I1 e1 d1 => ?_)
  rw [if_pos (by omega)] at d1
  have C1 := hC.clearRes hk (x := (rsd rs k).2.1 ++ pay) (I' := I1) (by rw [← ho]; exact e1) (by rw [← ho]; exact d1)
  refine V_run D [] 13 rfl ⟨a1, trivial⟩ ?_
  rw [a2]
  refine V_chV (av := [.inr (.inr o)]) (st := []) D mwX8_giveNextTag rfl lkX7_X8_giveNextTag (s_nextTag C1.2.2.2.1 ht (k := k) (by simpa using hk) ho) c1.1.1 rfl ⟨Nat.le_refl _, Nat.le_refl _⟩ (fun r I2 N2 P2 => ?_)
  obtain ⟨rfl, hN2, e2, S2⟩ := P2
  subst hN2
  rw [rsd_set_eq hk, List.set_set] at S2
  have C2 := C1.2.sto (I' := I2) (N' := N2) (fun a ha => ⟨e2 a (by omega) (by omega), rfl⟩) S2
  obtain ⟨hx2, -, -⟩ := S2.res (k := k) (by simpa using hk)
  rw [← ho, rsd_set_eq hk] at hx2
  refine V_run D [] 23 rfl ⟨r1, trivial⟩ ?_
  rw [hx2.2.2.2.2.1]
  obtain ⟨-, -, -, ⟨lat2, m2⟩, -⟩ := C2.2
  refine V_chV (av := [.inl 4, .inl ((tags + 1) % 65536), .inl ((2 : Nat) : Int)]) (st := []) D mwX7_addNumber rfl lkX7_X7_addNumber (s_addNumber a1 a4 m2 (by simp) (by omega) (fun _ h => nomatch h) (by omega)) a1 rfl ⟨Nat.le_refl _, Nat.le_refl _⟩ (fun r I3 N3 P3 => ?_)
  obtain ⟨rfl, f3, m3⟩ := P3
  have C3 := C2.2.ans f3 m3
  refine V_run D [] 27 rfl trivial ?_
  exact V_iret D rfl rfl ⟨rfl, rfl, rfl, (C1.1.trans C2.1).trans C3.1, C3.2⟩
theorem s_putFound {k : Nat} {g : Msg} {lat' : Option Nat} (hC : SvC T I N q rs tags (ty, co, id, tok, [], []) v n) (hk : k < rs.length) (ho : o = N (q + 1 + 1) k) (hg : MAt T I N m 20 g lat') (hm : m + 66 ≤ q ∨ q + 98 ≤ m) (ht : 0 ≤ tags ∧ tags ≤ 65535) :
    Spec mX7_answerPut 4 [.inr (.inr q), .inr (.inr m), .inr (.inr o)] z T I N 0 0 (xCg z T (SvPo T I N q (some (.inl 68)) (rs.set k ((rsd rs k).1, g.2.2.2.2.2, (tags + 1) % 65536)) ((tags + 1) % 65536) (ty, co, id, tok, [(4, hib ((tags + 1) % 65536) 2)], []) v n)) := by
  obtain ⟨⟨a1, a2, a3, a4, a5, a6, a7⟩, b1, c1, ⟨lat, c2⟩, c3⟩ := _root_.id hC
  obtain ⟨hx, h1, h2⟩ := c1.res hk
  obtain ⟨r1, r2, r3, r4, r5, r6, r7⟩ := _root_.id hx
  rw [← ho] at r1 r2 r3 r7 h1 h2
  have hgp := hg.2.2.2.1
  refine Spec_of okX7_answerPut (by decide) (by decide) (Nat.le_of_ble_eq_true rfl) fun Γ E D => ?_
  refine V_run D [] 1 rfl trivial ?_
  refine V_nonnull D 22 rfl rfl (fun q1 => ?_) (fun q1 => absurd q1 (by omega))
  refine V_run D [] 25 rfl trivial ?_
  refine V_nonnull D 32 rfl rfl (fun q2 => ?_) (fun q2 => absurd q2 (by omega))
  refine V_run D [] 36 rfl ⟨r1, trivial⟩ ?_
  rw [r3]
  refine V_putB (av := []) (st := []) D mwX0_clear rfl lkX7_X0_clear (s_clear r7) r7.1 rfl ⟨Nat.le_refl _, Nat.le_refl _⟩ (fun I1 e1 d1 => ?_)
  have C1 := hC.clearRes hk (x := []) (I' := I1) (by rw [← ho]; exact e1) (by rw [← ho]; exact d1)
  have hgp1 : BAt T I1 N (m + 3) 400 g.2.2.2.2.2 := hgp.kept (e1 _ (by omega) (by omega)) (e1 _ (by omega) (by omega)) rfl
  refine V_run D [] 46 rfl ⟨hg.1.1, trivial⟩ ?_
  rw [hg.1.2.2.1]
  refine V_nonnull D 54 rfl rfl (fun q3 => ?_) (fun q3 => absurd q3 (by omega))
  refine V_run D [] 56 rfl trivial ?_
  refine V_chV (av := [.inr (.inr o), .inr (.inr (m + 3)), .inl 68]) (st := []) D mwX7_change rfl lkX7_X7_change (s_change C1.2 (k := k) (by simpa using hk) ho hgp1 (by omega) (by rw [rsd_set_eq hk]; simpa using hgp.2.2.2.2.1) ht) a1 rfl ⟨Nat.le_refl _, Nat.le_refl _⟩ (fun r I2 N2 P2 => ?_)
  obtain ⟨rfl, f2, C2⟩ := P2
  rw [rsd_set_eq hk, List.set_set, List.nil_append] at C2
  exact V_iret D rfl rfl ⟨rfl, rfl, rfl, C1.1.trans f2, C2⟩
theorem s_putNew {p : List (List Int)} {g : Msg} {lat' : Option Nat} (hC : SvC T I N q rs tags (ty, co, id, tok, [], []) (pe p) (p.length : Int)) (hl : rs.length < 16) (hg : MAt T I N m 20 g lat') (hm : m + 66 ≤ q ∨ q + 98 ≤ m) (ht : 0 ≤ tags ∧ tags ≤ 65535) :
    Spec mX7_answerPut 4 [.inr (.inr q), .inr (.inr m), .inr (.inr 0)] z T I N 0 0 (xCg z T (SvPo T I N q (some (.inl 65)) (rs ++ [(p, g.2.2.2.2.2, (tags + 1) % 65536)]) ((tags + 1) % 65536) (ty, co, id, tok, [(4, hib ((tags + 1) % 65536) 2)], []) (pe p) (p.length : Int))) := by
  obtain ⟨⟨a1, a2, a3, a4, a5, a6, a7⟩, b1, c1, ⟨lat, c2⟩, c3⟩ := _root_.id hC
  have hgp := hg.2.2.2.1
  refine Spec_of okX7_answerPut (by decide) (by decide) (Nat.le_of_ble_eq_true rfl) fun Γ E D => ?_
  refine V_run D [] 1 rfl trivial ?_
  refine V_nonnull D 22 rfl rfl (fun q1 => absurd q1 (by omega)) (fun q1 => ?_)
  refine V_run D [] 16 rfl ⟨a1, a1, a1, trivial⟩ ?_
  rw [a2, a5, b1]
  refine V_chV (av := [.inr (.inr (q + 96)), .inl (p.length : Int)]) (st := []) D mwX8_make rfl lkX7_X8_make (s_make c1 hl c3 (by omega)) c1.1.1 rfl ⟨Nat.le_refl _, Nat.le_refl _⟩ (fun r I1 N1 P1 => ?_)
  obtain ⟨rfl, hN1, f1, t, S1⟩ := P1
  subst hN1
  have C1 := hC.sto (I' := I1) (N' := N1) f1 S1
  have hk : rs.length < (rs ++ [(p, ([] : List Int), t)]).length := by simp
  obtain ⟨hx, h1, h2⟩ := S1.res hk
  obtain ⟨r1, r2, r3, r4, r5, r6, r7⟩ := _root_.id hx
  generalize ho : N1 (q + 1 + 1) rs.length = o at r1 r2 r3 r7 h1 h2
  refine V_run D [] 25 rfl trivial ?_
  refine V_nonnull D 32 rfl rfl (fun q2 => ?_) (fun q2 => absurd q2 (by omega))
  refine V_run D [] 36 rfl ⟨r1, trivial⟩ ?_
  rw [r3]
  refine V_putB (av := []) (st := []) D mwX0_clear rfl lkX7_X0_clear (s_clear r7) r7.1 rfl ⟨Nat.le_refl _, Nat.le_refl _⟩ (fun I2 e2 d2 => ?_)
  have C2 := C1.2.clearRes hk (x := []) (I' := I2) (by rw [ho]; exact e2) (by rw [ho]; exact d2)
  have hgp2 : BAt T I2 N1 (m + 3) 400 g.2.2.2.2.2 := hgp.kept (by rw [e2 _ (by omega) (by omega), (f1 _ (by omega)).1]) (by rw [e2 _ (by omega) (by omega), (f1 _ (by omega)).1]) rfl
  refine V_run D [] 46 rfl ⟨hg.1.1, trivial⟩ ?_
  rw [hg.1.2.2.1]
  refine V_nonnull D 54 rfl rfl (fun q3 => absurd q3 (by omega)) (fun q3 => ?_)
  refine V_run D [] 56 rfl trivial ?_
  refine V_chV (av := [.inr (.inr o), .inr (.inr (m + 3)), .inl 65]) (st := []) D mwX7_change rfl lkX7_X7_change (s_change C2.2 (k := rs.length) (by simp) ho.symm hgp2 (by omega) (by rw [rsd_set_eq hk]; simpa using hgp.2.2.2.2.1) ht) a1 rfl ⟨Nat.le_refl _, Nat.le_refl _⟩ (fun r I3 N3 P3 => ?_)
  obtain ⟨rfl, f3, C3⟩ := P3
  rw [rsd_set_eq hk, List.set_set, List.nil_append] at C3
  have er : (rs ++ [(p, ([] : List Int), t)]).set rs.length ((rsd (rs ++ [(p, ([] : List Int), t)]) rs.length).1, g.2.2.2.2.2, (tags + 1) % 65536) = rs ++ [(p, g.2.2.2.2.2, (tags + 1) % 65536)] := by
    rw [rsd_app, if_neg (by omega), if_pos rfl]; simp
  rw [er] at C3
  exact V_iret D rfl rfl ⟨rfl, rfl, rfl, (C1.1.trans C2.1).trans f3, C3⟩
theorem s_putFullS {p : List (List Int)} (hC : SvC T I N q rs tags a (pe p) (p.length : Int)) (hl : ¬ rs.length < 16) :
    Spec mX7_answerPut 4 [.inr (.inr q), .inr (.inr m), .inr (.inr 0)] z T I N 0 0 (xCg z T (SvPo T I N q (some (.inl 143)) rs tags a (pe p) (p.length : Int))) := by
  obtain ⟨⟨a1, a2, a3, a4, a5, a6, a7⟩, b1, c1, ⟨lat, c2⟩, c3⟩ := _root_.id hC
  refine Spec_of okX7_answerPut (by decide) (by decide) (Nat.le_of_ble_eq_true rfl) fun Γ E D => ?_
  refine V_run D [] 1 rfl trivial ?_
  refine V_nonnull D 22 rfl rfl (fun q1 => absurd q1 (by omega)) (fun q1 => ?_)
  refine V_run D [] 16 rfl ⟨a1, a1, a1, trivial⟩ ?_
  rw [a2, a5, b1]
  refine V_askV (av := [.inr (.inr (q + 96)), .inl (p.length : Int)]) (st := []) D mwX8_make rfl lkX7_X8_make (s_makeFull c1 hl) c1.1.1 rfl ⟨Nat.le_refl _, Nat.le_refl _⟩ ?_
  refine V_run D [] 25 rfl trivial ?_
  refine V_nonnull D 32 rfl rfl (fun q2 => absurd q2 (by omega)) (fun q2 => ?_)
  refine V_run D [] 31 rfl trivial ?_
  exact V_iret D rfl rfl ⟨rfl, rfl, rfl, SvF.rf, hC⟩
theorem s_postNone (hC : SvC T I N q rs tags a v n) :
    Spec mX7_answerPost 4 [.inr (.inr q), .inr (.inr m), .inr (.inr 0)] z T I N 0 0 (xCg z T (SvPo T I N q (some (.inl 132)) rs tags a v n)) := by
  refine Spec_of okX7_answerPost (by decide) (by decide) (Nat.le_of_ble_eq_true rfl) fun Γ E D => ?_
  refine V_run D [] 1 rfl trivial ?_
  refine V_nonnull D 8 rfl rfl (fun q1 => absurd q1 (by omega)) (fun q1 => ?_)
  refine V_run D [] 7 rfl trivial ?_
  exact V_iret D rfl rfl ⟨rfl, rfl, rfl, SvF.rf, hC⟩
theorem s_postLong {k : Nat} {g : Msg} {lat' : Option Nat} (hC : SvC T I N q rs tags a v n) (hk : k < rs.length) (ho : o = N (q + 1 + 1) k) (hg : MAt T I N m 20 g lat') (hfit : ¬ (rsd rs k).2.1.length + g.2.2.2.2.2.length ≤ 400) :
    Spec mX7_answerPost 4 [.inr (.inr q), .inr (.inr m), .inr (.inr o)] z T I N 0 0 (xCg z T (SvPo T I N q (some (.inl 141)) rs tags a v n)) := by
  obtain ⟨⟨a1, a2, a3, a4, a5, a6, a7⟩, b1, c1, ⟨lat, c2⟩, c3⟩ := _root_.id hC
  obtain ⟨hx, h1, h2⟩ := c1.res hk
  obtain ⟨r1, r2, r3, r4, r5, r6, r7⟩ := _root_.id hx
  rw [← ho] at r1 r2 r3 r7 h1 h2
  have hgp := hg.2.2.2.1
  have l1 := hgp.2.2.2.2.1
  have l2 := r7.2.2.2.2.1
  refine Spec_of okX7_answerPost (by decide) (by decide) (Nat.le_of_ble_eq_true rfl) fun Γ E D => ?_
  refine V_run D [] 1 rfl trivial ?_
  refine V_nonnull D 8 rfl rfl (fun q1 => ?_) (fun q1 => absurd q1 (by omega))
  refine V_run D [] 19 rfl ⟨by rw [hg.1.2.2.1]; exact hgp.1, hg.1.1, r1, trivial⟩ ?_
  rw [r3, hg.1.2.2.1, hgp.2.2.2.1]
  refine V_askV (av := [.inl (g.2.2.2.2.2.length : Int)]) (st := []) D mwX0_hasRoom rfl lkX7_X0_hasRoom (s_hasRoom r7 (by omega)) r7.1 rfl ⟨Nat.le_refl _, Nat.le_refl _⟩ ?_
  rw [if_neg (by omega)]
  refine V_ne D 29 rfl rfl (by omega) (fun q2 => absurd rfl q2) (fun q2 => ?_)
  refine V_run D [] 28 rfl trivial ?_
  exact V_iret D rfl rfl ⟨rfl, rfl, rfl, SvF.rf, hC⟩
theorem s_post {k : Nat} {g : Msg} {lat' : Option Nat} (hC : SvC T I N q rs tags (ty, co, id, tok, [], []) v n) (hk : k < rs.length) (ho : o = N (q + 1 + 1) k) (hg : MAt T I N m 20 g lat') (hm : m + 66 ≤ q ∨ q + 98 ≤ m) (hfit : (rsd rs k).2.1.length + g.2.2.2.2.2.length ≤ 400) (ht : 0 ≤ tags ∧ tags ≤ 65535) :
    Spec mX7_answerPost 4 [.inr (.inr q), .inr (.inr m), .inr (.inr o)] z T I N 0 0 (xCg z T (SvPo T I N q (some (.inl 68)) (rs.set k ((rsd rs k).1, (rsd rs k).2.1 ++ g.2.2.2.2.2, (tags + 1) % 65536)) ((tags + 1) % 65536) (ty, co, id, tok, [(4, hib ((tags + 1) % 65536) 2)], []) v n)) := by
  obtain ⟨⟨a1, a2, a3, a4, a5, a6, a7⟩, b1, c1, ⟨lat, c2⟩, c3⟩ := _root_.id hC
  obtain ⟨hx, h1, h2⟩ := c1.res hk
  obtain ⟨r1, r2, r3, r4, r5, r6, r7⟩ := _root_.id hx
  rw [← ho] at r1 r2 r3 r7 h1 h2
  have hgp := hg.2.2.2.1
  have l1 := hgp.2.2.2.2.1
  have l2 := r7.2.2.2.2.1
  refine Spec_of okX7_answerPost (by decide) (by decide) (Nat.le_of_ble_eq_true rfl) fun Γ E D => ?_
  refine V_run D [] 1 rfl trivial ?_
  refine V_nonnull D 8 rfl rfl (fun q1 => ?_) (fun q1 => absurd q1 (by omega))
  refine V_run D [] 19 rfl ⟨by rw [hg.1.2.2.1]; exact hgp.1, hg.1.1, r1, trivial⟩ ?_
  rw [r3, hg.1.2.2.1, hgp.2.2.2.1]
  refine V_askV (av := [.inl (g.2.2.2.2.2.length : Int)]) (st := []) D mwX0_hasRoom rfl lkX7_X0_hasRoom (s_hasRoom r7 (by omega)) r7.1 rfl ⟨Nat.le_refl _, Nat.le_refl _⟩ ?_
  rw [if_pos (by omega)]
  refine V_ne D 29 rfl rfl (by omega) (fun q2 => ?_) (fun q2 => absurd q2 (by decide))
  refine V_run D [] 37 rfl ⟨hg.1.1, trivial⟩ ?_
  rw [hg.1.2.2.1]
  refine V_chV (av := [.inr (.inr o), .inr (.inr (m + 3)), .inl 68]) (st := []) D mwX7_change rfl lkX7_X7_change (s_change hC hk ho hgp (by omega) hfit ht) a1 rfl ⟨Nat.le_refl _, Nat.le_refl _⟩ (fun r I2 N2 P2 => ?_)
  obtain ⟨rfl, P3⟩ := P2
  exact V_iret D rfl rfl ⟨rfl, rfl, rfl, P3⟩
theorem s_deleteNone (hC : SvC T I N q rs tags a v n) :
    Spec mX7_answerDelete 1 [.inr (.inr q), .inr (.inr 0)] z T I N 0 0 (xCg z T (SvPo T I N q (some (.inl 66)) rs tags a v n)) := by
  refine Spec_of okX7_answerDelete (by decide) (by decide) (Nat.le_of_ble_eq_true rfl) fun Γ E D => ?_
  refine V_run D [] 1 rfl trivial ?_
  refine V_null D 12 rfl rfl (fun q1 => ?_) (fun q1 => absurd q1 (by omega))
  refine V_run D [] 14 rfl trivial ?_
  exact V_iret D rfl rfl ⟨rfl, rfl, rfl, SvF.rf, hC⟩
theorem s_delete {k : Nat} (hC : SvC T I N q rs tags a v n) (hk : k < rs.length) :
    Spec mX7_answerDelete 1 [.inr (.inr q), .inr (.inr (N (q + 1 + 1) k))] z T I N 0 0 (xCg z T (SvPo T I N q (some (.inl 66)) (rs.eraseIdx k) tags a v n)) := by
  obtain ⟨⟨a1, a2, a3, a4, a5, a6, a7⟩, b1, c1, ⟨lat, c2⟩, c3⟩ := _root_.id hC
  obtain ⟨hx, h1, h2⟩ := c1.res hk
  refine Spec_of okX7_answerDelete (by decide) (by decide) (Nat.le_of_ble_eq_true rfl) fun Γ E D => ?_
  refine V_run D [] 1 rfl trivial ?_
  refine V_null D 12 rfl rfl (fun q1 => absurd q1 (by omega)) (fun q1 => ?_)
  refine V_run D [] 9 rfl ⟨a1, trivial⟩ ?_
  rw [a2]
  refine V_chV (av := [.inr (.inr (N (q + 1 + 1) k))]) (st := []) D mwX8_remove rfl lkX7_X8_remove (s_remove c1 hk) c1.1.1 rfl ⟨Nat.le_refl _, Nat.le_refl _⟩ (fun r I1 N1 P1 => ?_)
  obtain ⟨rfl, f1, S1⟩ := P1
  have C1 := hC.sto f1 S1
  refine V_run D [] 14 rfl trivial ?_
  exact V_iret D rfl rfl ⟨rfl, rfl, rfl, C1⟩
end XSv5
