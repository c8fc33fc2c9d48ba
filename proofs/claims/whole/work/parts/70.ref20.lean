def anP (z : Nat) (T : xY) (N : xN) (I : xI) (y : Nat) (a : (Int × List Opt × List Int) × (List Res × Int)) : xPo := xMd z T N fun rr I' => rr = some (.inl a.1.1) ∧ Fr (fun b k => Ab y b k ∨ Rb y b k) I I' ∧ AA I' y a.1.2 ∧ RR I' y a.2.1 a.2.2
section XRef20
variable {Γ : xG} {E : xE} {M : xM} {z : Nat} {T : xY} {I I' J : xI} {N : xN} {y m lev mc ms ce sl pc idx i p r n k : Nat} {os : List Opt} {g : Msg} {x w : Res} {xs v : List Int} {Q : State → Prop} {lv : xL} {q : Opt} {rs : List Res} {tags : Int}
theorem anP.no {c : Int} (hA : AA I y ([], [])) (hR : RR I y rs tags) : anP z T N I y ((c, [], []), rs, tags) (some (.inl c)) z T I N := ⟨rfl, rfl, rfl, rfl, Fr.rf, hA, hR⟩
set_option maxRecDepth 8000 in
theorem la_some (D : xD Γ E mX10_answer 3 0 0) (h : MdS T N y) (hM : MM I y 1 g) (hok : MOk g) (hn : g.2.2.2.2.1.length ≤ 20) (hR : RR I y rs tags) (hrs : ∀ x ∈ rs, ROk x) (hrl : rs.length ≤ 16) (htb : 0 ≤ tags ∧ tags ≤ 65535) (hA : AA I y ([], [])) (hb : hBad g.2.2.2.2.1 = false) (hc1 : 1 ≤ g.2.1 ∧ g.2.1 ≤ 4) (hk : k < rs.length) :
    V Γ E (xQ Γ E (anP z T N I y (actK k rs tags g)) 0 0) z T I N 0 0 30 (xlv [some (.inr (.inr y)), some (.inl (k : Int))]) [] := by
  have hL := OL_of hok.2.2.2.2.1 (Int.le_refl _)
  have hO := hM.2.2.1
  have hx := hrs _ (rsd_mem hk)
  have hRk := hR.2.2 k hk
  obtain ⟨p1, p2⟩ := hM.2.2.2
  have hpl := hok.2.2.2.2.2.2
  refine V_run D [] 37 rfl ⟨h.a2 (by omega), h.1, trivial⟩ ?_
  rw [h.n2, show ((1 : Int)).toNat = 1 from rfl, hM.1.2.1]
  refine V_ine D 57 rfl rfl (by omega) (by omega) (fun c1 => ?_) (fun c1 => ?_)
  · have e0 : actK k rs tags g = if fails g.2.2.2.2.1 (some (rsd rs k).2.2) then ((140, [], []), rs, tags) else
        if g.2.1 = 2 then (if (rsd rs k).2.1.length + g.2.2.2.2.2.length ≤ 400 then ((68, [(4, hib ((tags + 1) % 65536) 2)], []), rs.set k ((rsd rs k).1, (rsd rs k).2.1 ++ g.2.2.2.2.2, (tags + 1) % 65536), (tags + 1) % 65536) else ((141, [], []), rs, tags)) else
        if g.2.1 = 3 then ((68, [(4, hib ((tags + 1) % 65536) 2)], []), rs.set k ((rsd rs k).1, g.2.2.2.2.2, (tags + 1) % 65536), (tags + 1) % 65536) else
        ((66, [], []), rs.eraseIdx k, tags) := by
      unfold actK
      rw [hb, if_neg (by decide), if_neg (by omega), if_neg c1]
      simp only [if_pos hk]
    rw [e0]
    have tail : ∀ (cs : List Int), Rw (I (y + 17)) (400 * k) cs → cs.length + g.2.2.2.2.2.length ≤ 400 → V Γ E (xQ Γ E (anP z T N I y ((68, [(4, hib ((tags + 1) % 65536) 2)], []), rs.set k ((rsd rs k).1, cs ++ g.2.2.2.2.2, (tags + 1) % 65536), (tags + 1) % 65536)) 0 0) z T I N 0 0 337 (xlv [some (.inr (.inr y)), some (.inl (k : Int)), none, none, some (.inl (cs.length : Int)), some (.inl 0)]) [] := fun cs hcs hl => by
      refine la_tail D h (by omega) ⟨hRk.1, hRk.2.1⟩ hcs hl p1 p2 hR.2.1 htb hA (Or.inl rfl) (fun J' fJ rb t17 aa lv => ?_)
      refine V_iret D rfl rfl ⟨rfl, rfl, rfl, rfl, fun a j q => ?_, aa, ?_, t17, fun j hj => ?_⟩
      · refine fJ a j (fun s => q ?_)
        unfold Ab Rb
        unfold Qb Pb at s
        rcases s with s | s | s
        · exact Or.inl (Or.inl s)
        · exact Or.inr (Or.inl (by omega))
        · exact Or.inr (Or.inr (by omega))
      · rw [List.length_set, fJ _ _ (by unfold Ob Qb Pb; omega)]; exact hR.1
      · rw [List.length_set] at hj
        rw [rsd_set hk]
        split
        · rename_i e; rw [e]; exact rb
        · exact (hR.2.2 j hj).keptQ (hrs _ (rsd_mem hj)) (fun a i q => fJ a i (by unfold Qb Pb at q; unfold Ob Qb Pb; omega))
    refine V_run D [65] 65 rfl trivial ?_
    refine V_loc [some (.inr (.inr y)), some (.inl (rI1 (some (k, (rsd rs k).2.2)))), some (.inl (b01 (has 1 (g.2.2.2.2.1.take 0)))), some (.inl (b01 (hol (some (k, (rsd rs k).2.2)) (g.2.2.2.2.1.take 0)))), some (.inl ((21 * 1 + 0 : Nat) : Int))] rfl ?_
    have bad : fails g.2.2.2.2.1 (some (rsd rs k).2.2) = true → anP z T N I y (if fails g.2.2.2.2.1 (some (rsd rs k).2.2) then ((140, [], []), rs, tags) else
        if g.2.1 = 2 then (if (rsd rs k).2.1.length + g.2.2.2.2.2.length ≤ 400 then ((68, [(4, hib ((tags + 1) % 65536) 2)], []), rs.set k ((rsd rs k).1, (rsd rs k).2.1 ++ g.2.2.2.2.2, (tags + 1) % 65536), (tags + 1) % 65536) else ((141, [], []), rs, tags)) else
        if g.2.1 = 3 then ((68, [(4, hib ((tags + 1) % 65536) 2)], []), rs.set k ((rsd rs k).1, g.2.2.2.2.2, (tags + 1) % 65536), (tags + 1) % 65536) else
        ((66, [], []), rs.eraseIdx k, tags)) (some (.inl 140)) z T I N := fun hf => by rw [if_pos hf]; exact anP.no hA hR
    refine la_cond D h hO hL hn (fun k' e => ?_) (fun hf lv => ?_) (fun hf lv => ?_) (fun hf lv l0 l1 => ?_) _ 0 (Nat.zero_add _) (fun _ => rfl)
    · cases e; exact ⟨by dsimp only; omega, hRk.2.2.2.2, hx.1⟩
    · refine V_run D [] 183 rfl trivial ?_
      exact V_iret D rfl rfl (bad hf)
    · refine V_run D [] 201 rfl trivial ?_
      exact V_iret D rfl rfl (bad hf)
    · have hf' : ¬ fails g.2.2.2.2.1 (some (rsd rs k).2.2) = true := by
        have : fails g.2.2.2.2.1 (some (rsd rs k).2.2) = false := hf
        rw [this]; decide
      rw [if_neg hf']
      have l1' : lv 1 = some (.inl (k : Int)) := l1
      refine V_lv (lv' := xlv [some (.inr (.inr y)), some (.inl (k : Int)), none, none]) (fun j v hj => by match j, hj with | 0, hj => exact l0.trans hj | 1, hj => exact l1'.trans hj | 2, hj => cases hj | 3, hj => cases hj) ?_
      refine V_run D [] 209 rfl ⟨h.a2 (by omega), h.1, trivial⟩ ?_
      rw [h.n2, show ((1 : Int)).toNat = 1 from rfl, hM.1.2.1]
      refine V_ine D 225 rfl rfl (by omega) (by omega) (fun c4 => ?_) (fun c4 => ?_)
      · refine V_run D [] 232 rfl ⟨h.a2 (by omega), h.1, trivial⟩ ?_
        rw [h.n2, show ((1 : Int)).toNat = 1 from rfl, hM.1.2.1]
        refine V_ine D 249 rfl rfl (by omega) (by omega) (fun c2 => ?_) (fun c2 => ?_)
        · -- PUT
          rw [if_neg c2, if_pos (by omega)]
          refine V_run D [] 259 rfl ⟨h.a2 (by omega), h.1, trivial⟩ ?_
          rw [h.n2, show ((1 : Int)).toNat = 1 from rfl, hM.1.2.1]
          refine V_ine D 297 rfl rfl (by omega) (by omega) (fun _ => ?_) (fun q => absurd q c2)
          refine V_run D [] 299 rfl trivial ?_
          refine V_ine D 306 rfl rfl (by omega) (by omega) (fun _ => ?_) (fun q => absurd q (by omega))
          refine V_run D [] 311 rfl trivial ?_
          refine V_eq D 327 rfl rfl (by omega) (fun _ => ?_) (fun q => absurd rfl q)
          refine V_run D [] 329 rfl trivial ?_
          refine V_eq D 337 rfl rfl (by omega) (fun _ => ?_) (fun q => absurd rfl q)
          exact V_loc [some (.inr (.inr y)), some (.inl (k : Int)), none, none, some (.inl (([] : List Int).length : Int)), some (.inl 0)] rfl (tail [] Rw.nil (by simp; omega))
        · -- POST
          rw [if_pos c2]
          refine V_run D [] 237 rfl trivial ?_
          refine V_ieq D 249 rfl rfl (by omega) (by omega) (fun q => absurd q (by omega)) (fun _ => ?_)
          have hcl := hx.2.2.1
          refine V_run D [] 259 rfl ⟨h.a2 (by omega), h.1, h.a16 (by omega), h.1, trivial⟩ ?_
          rw [h.n2, h.n16, show ((1 : Int)).toNat = 1 from rfl, Int.toNat_natCast, hM.1.2.1, hRk.2.2.1]
          refine V_ine D 297 rfl rfl (by omega) (by omega) (fun q => absurd c2 q) (fun _ => ?_)
          refine V_run D [] 264 rfl trivial ?_
          refine V_ieq D 282 rfl rfl (by omega) (by omega) (fun q => absurd q (by omega)) (fun _ => ?_)
          refine V_run D [] 279 rfl ⟨h.a10 (by omega), h.1, trivial⟩ ?_
          rw [h.n10, show ((1 : Int)).toNat = 1 from rfl, p1]
          refine V_ile D 297 rfl rfl (by omega) (by omega) (fun c5 => ?_) (fun c5 => ?_)
          · rw [if_pos (by omega)]
            refine V_run D [] 299 rfl trivial ?_
            refine V_ine D 306 rfl rfl (by omega) (by omega) (fun _ => ?_) (fun q => absurd q (by omega))
            refine V_run D [] 311 rfl trivial ?_
            refine V_eq D 327 rfl rfl (by omega) (fun _ => ?_) (fun q => absurd rfl q)
            refine V_run D [] 329 rfl trivial ?_
            refine V_eq D 337 rfl rfl (by omega) (fun _ => ?_) (fun q => absurd rfl q)
            exact V_loc [some (.inr (.inr y)), some (.inl (k : Int)), none, none, some (.inl ((rsd rs k).2.1.length : Int)), some (.inl 0)] rfl (tail (rsd rs k).2.1 hRk.2.2.2.1 (by omega))
          · rw [if_neg (by omega)]
            refine V_run D [] 284 rfl trivial ?_
            refine V_ine D 293 rfl rfl (by omega) (by omega) (fun _ => ?_) (fun q => absurd q (by omega))
            refine V_run D [] 296 rfl trivial ?_
            exact V_iret D rfl rfl (anP.no hA hR)
      · -- DELETE
        rw [if_neg (by omega), if_neg (by omega)]
        refine V_run D [] 214 rfl trivial ?_
        refine V_ieq D 222 rfl rfl (by omega) (by omega) (fun q => absurd q (by omega)) (fun _ => ?_)
        refine V_run D [] 219 rfl trivial ?_
        refine V_mdV (av := [.inl (k : Int)]) (st := []) D mwX10_goes rfl lkX10_X10_goes (r_goes h hR hrs hrl hk) h.1 rfl ⟨Nat.le_refl _, Nat.le_refl _⟩ (fun rr I1 P1 => ?_)
        obtain ⟨rfl, f1, r1⟩ := P1
        refine V_run D [] 224 rfl trivial ?_
        refine V_iret D rfl rfl ⟨rfl, rfl, rfl, rfl, f1.wide (fun a j q => Or.inr q), ⟨hA.1.kept (fun k hk => by simp at hk) (by simp) (fun a j q => f1 a j (by unfold Ob at q; unfold Rb; omega)), ?_, Rw.nil⟩, r1⟩
        rw [f1 _ _ (by unfold Rb; omega)]; exact hA.2.1
  · have e0 : actK k rs tags g = (getA g.2.2.2.2.1 (rsd rs k), rs, tags) := by
      unfold actK
      rw [hb, if_neg (by decide), if_neg (by omega), if_pos c1, if_pos hk]
    rw [e0]
    refine V_run D [] 42 rfl trivial ?_
    refine V_ine D 51 rfl rfl (by omega) (by omega) (fun _ => ?_) (fun q => absurd q (by omega))
    refine V_run D [] 53 rfl trivial ?_
    refine V_mdV (av := [.inl (k : Int)]) (st := []) D mwX10_get rfl lkX10_X10_get (r_get h hO hL hn (by omega) hRk hx hA hb) h.1 rfl ⟨Nat.le_refl _, Nat.le_refl _⟩ (fun rr I1 P1 => ?_)
    obtain ⟨rfl, f1, a1⟩ := P1
    exact V_iret D rfl rfl ⟨rfl, rfl, rfl, rfl, f1.wide (fun a j q => Or.inl q), a1, hR.kept (fun a j q => f1 a j (by unfold Rb at q; unfold Ab Ob; omega))⟩
set_option maxRecDepth 8000 in
theorem la_none (D : xD Γ E mX10_answer 3 0 0) (h : MdS T N y) (hM : MM I y 1 g) (hok : MOk g) (hn : g.2.2.2.2.1.length ≤ 20) (hR : RR I y rs tags) (hrs : ∀ x ∈ rs, ROk x) (hrl : rs.length ≤ 16) (htb : 0 ≤ tags ∧ tags ≤ 65535) (hA : AA I y ([], [])) (hb : hBad g.2.2.2.2.1 = false) (hc1 : 1 ≤ g.2.1 ∧ g.2.1 ≤ 4) (hk : ¬ k < rs.length) :
    V Γ E (xQ Γ E (anP z T N I y (actK k rs tags g)) 0 0) z T I N 0 0 30 (xlv [some (.inr (.inr y)), some (.inl (-1))]) [] := by
  have hL := OL_of hok.2.2.2.2.1 (Int.le_refl _)
  have hO := hM.2.2.1
  obtain ⟨p1, p2⟩ := hM.2.2.2
  have hpl := hok.2.2.2.2.2.2
  refine V_run D [] 37 rfl ⟨h.a2 (by omega), h.1, trivial⟩ ?_
  rw [h.n2, show ((1 : Int)).toNat = 1 from rfl, hM.1.2.1]
  refine V_ine D 57 rfl rfl (by omega) (by omega) (fun c1 => ?_) (fun c1 => ?_)
  · have e0 : actK k rs tags g = if fails g.2.2.2.2.1 none then ((140, [], []), rs, tags) else
        if g.2.1 = 2 then ((132, [], []), rs, tags) else
        if g.2.1 = 3 then (if rs.length < 16 then ((65, [(4, hib ((tags + 1) % 65536) 2)], []), rs ++ [(pth g.2.2.2.2.1, g.2.2.2.2.2, (tags + 1) % 65536)], (tags + 1) % 65536) else ((143, [], []), rs, tags)) else
        ((66, [], []), rs, tags) := by
      unfold actK
      rw [hb, if_neg (by decide), if_neg (by omega), if_neg c1]
      simp only [if_neg hk]
    rw [e0]
    refine V_run D [65] 65 rfl trivial ?_
    refine V_loc [some (.inr (.inr y)), some (.inl (rI1 none)), some (.inl (b01 (has 1 (g.2.2.2.2.1.take 0)))), some (.inl (b01 (hol none (g.2.2.2.2.1.take 0)))), some (.inl ((21 * 1 + 0 : Nat) : Int))] rfl ?_
    have bad : fails g.2.2.2.2.1 none = true → anP z T N I y (if fails g.2.2.2.2.1 none then ((140, [], []), rs, tags) else
        if g.2.1 = 2 then ((132, [], []), rs, tags) else
        if g.2.1 = 3 then (if rs.length < 16 then ((65, [(4, hib ((tags + 1) % 65536) 2)], []), rs ++ [(pth g.2.2.2.2.1, g.2.2.2.2.2, (tags + 1) % 65536)], (tags + 1) % 65536) else ((143, [], []), rs, tags)) else
        ((66, [], []), rs, tags)) (some (.inl 140)) z T I N := fun hf => by rw [if_pos hf]; exact anP.no hA hR
    refine la_cond D h hO hL hn (fun k' e => by cases e) (fun hf lv => ?_) (fun hf lv => ?_) (fun hf lv l0 l1 => ?_) _ 0 (Nat.zero_add _) (fun _ => rfl)
    · refine V_run D [] 183 rfl trivial ?_
      exact V_iret D rfl rfl (bad hf)
    · refine V_run D [] 201 rfl trivial ?_
      exact V_iret D rfl rfl (bad hf)
    · have hf' : ¬ fails g.2.2.2.2.1 none = true := by
        have : fails g.2.2.2.2.1 none = false := hf
        rw [this]; decide
      rw [if_neg hf']
      have l1' : lv 1 = some (.inl (-1)) := l1
      refine V_lv (lv' := xlv [some (.inr (.inr y)), some (.inl (-1)), none, none]) (fun j v hj => by match j, hj with | 0, hj => exact l0.trans hj | 1, hj => exact l1'.trans hj | 2, hj => cases hj | 3, hj => cases hj) ?_
      refine V_run D [] 209 rfl ⟨h.a2 (by omega), h.1, trivial⟩ ?_
      rw [h.n2, show ((1 : Int)).toNat = 1 from rfl, hM.1.2.1]
      refine V_ine D 225 rfl rfl (by omega) (by omega) (fun c4 => ?_) (fun c4 => ?_)
      · refine V_run D [] 232 rfl ⟨h.a2 (by omega), h.1, trivial⟩ ?_
        rw [h.n2, show ((1 : Int)).toNat = 1 from rfl, hM.1.2.1]
        refine V_ine D 249 rfl rfl (by omega) (by omega) (fun c2 => ?_) (fun c2 => ?_)
        · -- PUT
          rw [if_neg c2, if_pos (by omega)]
          refine V_run D [] 259 rfl ⟨h.a2 (by omega), h.1, trivial⟩ ?_
          rw [h.n2, show ((1 : Int)).toNat = 1 from rfl, hM.1.2.1]
          refine V_ine D 297 rfl rfl (by omega) (by omega) (fun _ => ?_) (fun q => absurd q c2)
          refine V_run D [] 299 rfl trivial ?_
          refine V_ine D 306 rfl rfl (by omega) (by omega) (fun q => absurd rfl q) (fun _ => ?_)
          refine V_run D [] 311 rfl trivial ?_
          refine V_eq D 327 rfl rfl (by omega) (fun q => absurd q (by decide)) (fun _ => ?_)
          refine V_run D [] 320 rfl ⟨h.1, trivial⟩ ?_
          rw [hR.1]
          refine V_ine D 327 rfl rfl (by omega) (by omega) (fun c5 => ?_) (fun c5 => ?_)
          · rw [if_pos (by omega)]
            refine V_run D [] 329 rfl trivial ?_
            refine V_eq D 337 rfl rfl (by omega) (fun q => absurd q (by decide)) (fun _ => ?_)
            refine V_run D [] 333 rfl trivial ?_
            refine V_mdV (av := []) (st := []) D mwX10_makes rfl lkX10_X10_makes (r_makes (r := rs.length) h hO hL hn (by omega) hR.1) h.1 rfl ⟨Nat.le_refl _, Nat.le_refl _⟩ (fun rr I1 P1 => ?_)
            obtain ⟨rfl, f1, r1, b1⟩ := P1
            have p1' : I1 (y + 10) 1 = (g.2.2.2.2.2.length : Int) := by rw [f1 _ _ (by unfold Pb; omega)]; exact p1
            have p2' : Rw (I1 (y + 11)) 400 g.2.2.2.2.2 := p2.kept (fun j _ => f1 _ _ (by unfold Pb; omega))
            have t1 : I1 y 17 = tags := by rw [f1 _ _ (by unfold Pb; omega)]; exact hR.2.1
            have a1 : AA I1 y ([], []) := ⟨hA.1.kept (fun k hk => by simp at hk) (by simp) (fun a j q => f1 a j (by unfold Ob at q; unfold Pb; omega)), by rw [f1 _ _ (by unfold Pb; omega)]; exact hA.2.1, Rw.nil⟩
            refine V_run D [337] 337 rfl trivial ?_
            refine V_loc [some (.inr (.inr y)), some (.inl (rs.length : Int)), none, none, some (.inl (([] : List Int).length : Int)), some (.inl 1)] rfl ?_
            refine la_tail D h (by omega) b1 Rw.nil (by simp; omega) p1' p2' t1 htb a1 (Or.inr rfl) (fun J' fJ rb t17 aa lv => ?_)
            refine V_iret D rfl rfl ⟨rfl, rfl, rfl, rfl, fun a j q => ?_, aa, ?_, t17, fun j hj => ?_⟩
            · rw [fJ a j (fun s => q ?_), f1 a j (fun s => q ?_)]
              · unfold Rb; unfold Pb at s; exact Or.inr (by omega)
              · unfold Ab Rb
                unfold Qb Pb at s
                rcases s with s | s | s
                · exact Or.inl (Or.inl s)
                · exact Or.inr (Or.inl (by omega))
                · exact Or.inr (Or.inr (by omega))
            · rw [fJ _ _ (by unfold Ob Qb Pb; omega), r1]; simp
            · rw [List.length_append, List.length_singleton] at hj
              rw [rsd_app]
              by_cases cj : j < rs.length
              · rw [if_pos cj]
                exact (hR.2.2 j cj).keptQ (hrs _ (rsd_mem cj)) (fun a i q => by
                  rw [fJ a i (by unfold Qb Pb at q; unfold Ob Qb Pb; omega), f1 a i (by unfold Qb Pb at q; unfold Pb; omega)])
              · rw [if_neg cj, if_pos (by omega), show j = rs.length by omega]
                exact rb
          · rw [if_neg (by omega)]
            refine V_run D [] 326 rfl trivial ?_
            exact V_iret D rfl rfl (anP.no hA hR)
        · -- POST
          rw [if_pos c2]
          refine V_run D [] 237 rfl trivial ?_
          refine V_ieq D 249 rfl rfl (by omega) (by omega) (fun _ => ?_) (fun q => absurd rfl q)
          refine V_run D [] 259 rfl ⟨h.a2 (by omega), h.1, trivial⟩ ?_
          rw [h.n2, show ((1 : Int)).toNat = 1 from rfl, hM.1.2.1]
          refine V_ine D 297 rfl rfl (by omega) (by omega) (fun q => absurd c2 q) (fun _ => ?_)
          refine V_run D [] 264 rfl trivial ?_
          refine V_ieq D 282 rfl rfl (by omega) (by omega) (fun _ => ?_) (fun q => absurd rfl q)
          refine V_run D [] 284 rfl trivial ?_
          refine V_ine D 293 rfl rfl (by omega) (by omega) (fun q => absurd rfl q) (fun _ => ?_)
          refine V_run D [] 296 rfl trivial ?_
          exact V_iret D rfl rfl (anP.no hA hR)
      · -- DELETE
        rw [if_neg (by omega), if_neg (by omega)]
        refine V_run D [] 214 rfl trivial ?_
        refine V_ieq D 222 rfl rfl (by omega) (by omega) (fun _ => ?_) (fun q => absurd rfl q)
        refine V_run D [] 224 rfl trivial ?_
        exact V_iret D rfl rfl (anP.no hA hR)
  · have e0 : actK k rs tags g = ((132, [], []), rs, tags) := by
      unfold actK
      rw [hb, if_neg (by decide), if_neg (by omega), if_pos c1, if_neg hk]
    rw [e0]
    refine V_run D [] 42 rfl trivial ?_
    refine V_ine D 51 rfl rfl (by omega) (by omega) (fun q => absurd rfl q) (fun _ => ?_)
    refine V_run D [] 56 rfl trivial ?_
    exact V_iret D rfl rfl (anP.no hA hR)
theorem r_answer (h : MdS T N y) (hM : MM I y 1 g) (hok : MOk g) (hn : g.2.2.2.2.1.length ≤ 20) (hR : RR I y rs tags) (hrs : ∀ x ∈ rs, ROk x) (hrl : rs.length ≤ 16) (htb : 0 ≤ tags ∧ tags ≤ 65535) (hA : AA I y ([], [])) (hc1 : 1 ≤ g.2.1) : Spec mX10_answer 3 [.inr (.inr y)] z T I N 0 0 (anP z T N I y (act rs tags g)) := by
  have hL := OL_of hok.2.2.2.2.1 (Int.le_refl _)
  have hO := hM.2.2.1
  have hco := hok.2.1
  refine Spec_of okX10_answer (by decide) (by decide) (Nat.le_of_ble_eq_true rfl) fun Γ E D => ?_
  refine V_run D [] 1 rfl trivial ?_
  refine V_askV (av := []) (st := []) D mwX10_isBad rfl lkX10_X10_isBad (r_isBad h hO hL hn) h.1 rfl ⟨Nat.le_refl _, Nat.le_refl _⟩ ?_
  unfold act
  cases hb : hBad g.2.2.2.2.1 with
  | true =>
    refine V_eq D 11 rfl rfl (b01_in _) (fun q => absurd q (by decide)) (fun _ => ?_)
    refine V_run D [] 10 rfl trivial ?_
    have e : ∀ k, actK k rs tags g = ((130, [], []), rs, tags) := fun k => by unfold actK; rw [if_pos hb]
    rw [e]
    exact V_iret D rfl rfl (anP.no hA hR)
  | false =>
    refine V_eq D 11 rfl rfl (b01_in _) (fun _ => ?_) (fun q => absurd rfl q)
    refine V_run D [] 18 rfl ⟨h.a2 (by omega), h.1, trivial⟩ ?_
    rw [h.n2, show ((1 : Int)).toNat = 1 from rfl, hM.1.2.1]
    refine V_ile D 25 rfl rfl (by omega) (by omega) (fun c => ?_) (fun c => ?_)
    · refine V_run D [] 26 rfl trivial ?_
      refine V_askV (av := []) (st := []) D mwX10_found rfl lkX10_X10_found (r_found h hO hL hn hR hrs hrl) h.1 rfl ⟨Nat.le_refl _, Nat.le_refl _⟩ ?_
      generalize rfi (pe (pth g.2.2.2.2.1)) rs = k
      by_cases hk : k < rs.length
      · rw [if_pos hk]
        refine V_run D [30] 30 rfl trivial ?_
        exact V_loc [some (.inr (.inr y)), some (.inl (k : Int))] rfl (la_some D h hM hok hn hR hrs hrl htb hA hb ⟨hc1, c⟩ hk)
      · rw [if_neg hk]
        refine V_run D [30] 30 rfl trivial ?_
        exact V_loc [some (.inr (.inr y)), some (.inl (-1))] rfl (la_none D h hM hok hn hR hrs hrl htb hA hb ⟨hc1, c⟩ hk)
    · refine V_run D [] 24 rfl trivial ?_
      have e : ∀ k, actK k rs tags g = ((133, [], []), rs, tags) := fun k => by unfold actK; rw [hb, if_neg (by decide), if_pos (by omega)]
      rw [e]
      exact V_iret D rfl rfl (anP.no hA hR)
end XRef20
