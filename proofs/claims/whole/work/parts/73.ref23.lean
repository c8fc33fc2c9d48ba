section XRef23
variable {Γ : xG} {E : xE} {M : xM} {z : Nat} {T : xY} {I I' J : xI} {N : xN} {y m lev mc ms ce sl pc idx i r n k : Nat} {os : List Opt} {g : Msg} {x : Dk} {xs v : List Int} {Q : State → Prop} {lv : xL} {q : Opt} {rs : List Res} {tags : Int} {s s' : Sv}
/-- was there such a message of late -/
theorem ls_find {p : Nat} {c2 : Int} {ring : List Opt} {n : Nat} (D : xD Γ E mX10_serve 4 0 0) (h : MdS T N y) (hp : p < 10) (hPr : PrOk (ring, n)) (hn : I (y + 19) p = (n : Int)) (hnb : n < 2147483648) (hB : ∀ k, k < 8 → k < n → SB I y (8 * p + k) (od ring k)) {id : Int} (hid : I (y + 3) 1 = id) (hidb : 0 ≤ id ∧ id ≤ 65535)
    (K0 : ¬ fi id ring < 8 → ∀ lv, lv 0 = some (.inr (.inr y)) → lv 1 = some (.inl (p : Int)) → lv 2 = some (.inl c2) → V Γ E Q z T I N 0 0 212 lv [])
    (K1 : ∀ k, k < 8 → k < n → fi id ring = k → ∀ c3 : Int, V Γ E Q z T I N 0 0 138 (xlv [some (.inr (.inr y)), some (.inl (p : Int)), some (.inl c2), some (.inl c3), some (.inl ((8 * p + k : Nat) : Int))]) []) : ∀ d k, k + d = 8 → k ≤ fi id ring → ∀ lv : xL, lv 0 = some (.inr (.inr y)) → lv 1 = some (.inl (p : Int)) → lv 2 = some (.inl c2) → lv 3 = some (.inl (k : Int)) →
    V Γ E Q z T I N 0 0 98 lv []
  | 0, k, hk, hf, lv, l0, l1, l2, l3 => by
    obtain rfl : k = 8 := by omega
    refine V_lv (lv' := xlv [some (.inr (.inr y)), some (.inl (p : Int)), some (.inl c2), some (.inl ((8 : Nat) : Int))]) (fun j v hj => by match j, hj with | 0, hj => exact l0.trans hj | 1, hj => exact l1.trans hj | 2, hj => exact l2.trans hj | 3, hj => exact l3.trans hj) ?_
    refine V_run D [] 101 rfl trivial ?_
    exact V_ige D 212 rfl rfl (by omega) (by omega) (fun _ => K0 (by omega) _ rfl rfl rfl) (fun q => absurd q (by decide))
  | d + 1, k, hk, hf, lv, l0, l1, l2, l3 => by
    refine V_lv (lv' := xlv [some (.inr (.inr y)), some (.inl (p : Int)), some (.inl c2), some (.inl (k : Int))]) (fun j v hj => by match j, hj with | 0, hj => exact l0.trans hj | 1, hj => exact l1.trans hj | 2, hj => exact l2.trans hj | 3, hj => exact l3.trans hj) ?_
    have hl := hPr.1
    dsimp only at hl
    refine V_run D [] 101 rfl trivial ?_
    refine V_ige D 212 rfl rfl (by omega) (by omega) (fun q => absurd q (by omega)) (fun _ => ?_)
    refine V_run D [] 111 rfl ⟨h.a19 (by omega), h.1, trivial⟩ ?_
    rw [h.n19, Int.toNat_natCast, hn]
    refine V_ige D 212 rfl rfl (by omega) (by omega) (fun c => K0 (fun hlt => ?_) _ rfl rfl rfl) (fun c => ?_)
    · have h1 := fi_at (n := id) (os := ring) (by omega)
      have h2 := (hPr.2 (fi id ring) hlt).1 (by dsimp only; omega)
      dsimp only at h2
      omega
    · obtain ⟨b1, b2, b3, b4⟩ := hB k (by omega) (by omega)
      have hr := ((hPr.2 k (by omega)).2 (by dsimp only; omega)).1
      dsimp only at hr
      refine V_run D [] 135 rfl ⟨h.a3 (by omega), h.1, h.a20 (by omega), h.1, trivial⟩ ?_
      rw [h.n3, h.n20, show ((1 : Int)).toNat = 1 from rfl, show (8 * (p : Int) + (k : Int)).toNat = 8 * p + k by omega, show (8 * (p : Int) + (k : Int)) = ((8 * p + k : Nat) : Int) by omega, b1, hid]
      refine V_ine D 206 rfl rfl (by omega) (by omega) (fun c2' => ?_) (fun c2' => ?_)
      · have := fi_next hf (by omega) c2'
        refine V_run D [98] 98 rfl trivial ?_
        exact ls_find D h hp hPr hn hnb hB hid hidb K0 K1 d (k + 1) (by omega) this _ rfl rfl rfl rfl
      · exact V_loc [some (.inr (.inr y)), some (.inl (p : Int)), some (.inl c2), some (.inl (k : Int)), some (.inl ((8 * p + k : Nat) : Int))] rfl (K1 k (by omega) (by omega) (fi_hit hf (by omega) c2') _)
set_option maxRecDepth 8000 in
theorem r_serve {p : Int} (h : MdAt T I N y x) (hok : DkOk x) (h4 : xIn p) (hcnt : ∀ k, k < 10 → (x.2.2.2.2 k).2 < 2147483647) : Spec mX10_serve 4 [.inr (.inr y), .inl p] z T I N 0 0 (MdP z T I N y rI (dServe x p)) := by
  have hS := h.1
  have hrr := rd_rng x.1
  refine Spec_of okX10_serve (by decide) (by decide) (Nat.le_of_ble_eq_true rfl) fun Γ E D => ?_
  have bad : ¬ (0 ≤ p ∧ p ≤ 9) → V Γ E (xQ Γ E (MdP z T I N y rI (dServe x p)) 0 0) z T I N 0 0 11 (xent [.inr (.inr y), .inl p] 0) [.inr (.inr y)] := fun hc => by
    have e : dServe x p = (1, 0, x) := by unfold dServe; rw [if_pos hc]
    rw [e]
    refine V_run D [] 16 rfl trivial ?_
    refine V_ref1 D hS rfl lkX10_X10_refuses (by omega) 24 rfl rfl rfl ⟨Nat.le_refl _, Nat.le_refl _⟩ ?_
    refine V_run D [] 23 rfl trivial ?_
    exact V_iret D rfl rfl (MdP.no h hok.1 1 rfl)
  refine V_run D [] 2 rfl trivial ?_
  refine V_lt D 11 rfl rfl h4 (fun q => bad (by omega)) (fun c1 => ?_)
  refine V_run D [] 8 rfl trivial ?_
  refine V_ile D 15 rfl rfl h4 (by omega) (fun c2 => ?_) (fun q => bad (by omega))
  obtain ⟨p', rfl⟩ : ∃ p' : Nat, p = (p' : Int) := ⟨p.toNat, by omega⟩
  refine V_run D [] 16 rfl trivial ?_
  refine V_ref0 D hS rfl lkX10_X10_refuses 24 rfl rfl rfl ⟨Nat.le_refl _, Nat.le_refl _⟩ ?_
  refine V_run D [] 25 rfl trivial ?_
  have h0 := h.code hok.1 0
  refine V_mdV (av := []) (st := []) D mwX10_fault rfl lkX10_X10_fault (r_fault hS h0.2.1) hS.1 rfl ⟨Nat.le_refl _, Nat.le_refl _⟩ (fun rr I1 P1 => ?_)
  obtain ⟨rfl, f1, t1, g1⟩ := P1
  have h1 := h0.fx hok.1 f1
  have z1 : I1 y 0 = 0 := by rw [f1 _ _ (by unfold Fx Mb Ob; omega)]; exact xup_0
  have out1 : ∀ a, (a < y ∨ y + 24 ≤ a) → I1 a = I a := fun a ha => funext fun k => by rw [f1 a k (by unfold Fx Mb Ob; omega), xup_ap, if_neg (by omega)]
  -- no answer
  have non : (dServe x (p' : Int) = (0, -1, ([], x.2))) → ∀ lv : xL, lv 0 = some (.inr (.inr y)) → V Γ E (xQ Γ E (MdP z T I N y rI (dServe x (p' : Int))) 0 0) z T I1 N 0 0 50 lv [] := fun e lv l0 => by
    rw [e]
    refine V_lv (lv' := xlv [some (.inr (.inr y))]) (fun j v hj => by match j, hj with | 0, hj => exact l0.trans hj) ?_
    refine V_run D [] 51 rfl trivial ?_
    refine V_mdV (av := []) (st := []) D mwX10_nothing rfl lkX10_X10_nothing (r_nothing hS) hS.1 rfl ⟨Nat.le_refl _, Nat.le_refl _⟩ (fun r I2 P2 => ?_)
    obtain ⟨rfl, rfl⟩ := P2
    obtain ⟨o2, m2⟩ := h1.setH (I' := xup I1 y 13 0) (xs := []) hok.1 (fun a k q => by rw [xup_ap, if_neg (fun r => q (Or.inl (Or.inl r)))]) ⟨⟨by rw [xup_ap, if_pos ⟨rfl, rfl⟩]; rfl, by simp, BsOk.nil⟩, Rw.nil⟩
    exact V_iret D rfl rfl ⟨rfl, rfl, rfl, rfl, by rw [xup_ap, if_neg (by omega)]; exact z1, fun a ha => by rw [o2 a ha, out1 a ha], m2⟩
  refine V_run D [] 30 rfl trivial ?_
  rcases hrr.1 with h00 | hneg
  · have hm := (rd_ok h.2.1.1.2.2 h00).1
    obtain ⟨gt, gm⟩ := g1 h00
    rw [h00]
    refine V_gt D 50 rfl rfl (by omega) (fun q => absurd q (by decide)) (fun _ => ?_)
    refine V_run D [] 37 rfl ⟨hS.1, trivial⟩ ?_
    refine V_ne D 50 rfl rfl (by omega) (fun c => non ?_ _ rfl) (fun c => ?_)
    · unfold dServe
      rw [if_neg (by omega), if_pos (Or.inr _)]
      by_cases hh : (rd x.1).2.2.2.2.2.1.length ≤ 20
      · exact absurd (gt.mpr hh) c
      · omega
    have hle := gt.mp c
    have gm := gm hle
    have e : dServe x (p' : Int) = (0, (tk x.2.2 (rd x.1).2 p').1, ((tk x.2.2 (rd x.1).2 p').2.1, x.2.1, (tk x.2.2 (rd x.1).2 p').2.2)) := by unfold dServe; rw [if_neg (by omega), if_neg (by omega), Int.toNat_natCast]
    rw [e] at non ⊢
    generalize rd x.1 = R at *
    obtain ⟨R1, g⟩ := R
    dsimp only at gm hle hm non ⊢
    have hg1 := hm.1
    have hg2 := hm.2.1
    have hg3 := hm.2.2.1
    refine V_run D [] 47 rfl ⟨hS.a1 (by omega), hS.1, trivial⟩ ?_
    rw [hS.n1, show ((1 : Int)).toNat = 1 from rfl, gm.1.1]
    refine V_ile D 55 rfl rfl (by omega) (by omega) (fun c3 => ?_) (fun c3 => ?_)
    · have nores : (g.2.1 = 0 ∨ 31 < g.2.1) → V Γ E (xQ Γ E (MdP z T I N y rI (0, (tk x.2.2 g p').1, ((tk x.2.2 g p').2.1, x.2.1, (tk x.2.2 g p').2.2))) 0 0) z T I1 N 0 0 75 (xlv [some (.inr (.inr y))]) [] := fun hc => by
        refine V_run D [] 81 rfl ⟨hS.a1 (by omega), hS.1, trivial⟩ ?_
        rw [hS.n1, show ((1 : Int)).toNat = 1 from rfl, gm.1.1]
        refine V_ne D 91 rfl rfl (by omega) (fun c5 => ?_) (fun c5 => ?_)
        · have et : tk x.2.2 g p' = (-1, [], x.2.2) := by unfold tk; rw [if_neg (by omega), if_pos hc, if_neg c5]
          rw [et]
          refine V_run D [] 92 rfl trivial ?_
          refine V_mdV (av := []) (st := []) D mwX10_nothing rfl lkX10_X10_nothing (r_nothing hS) hS.1 rfl ⟨Nat.le_refl _, Nat.le_refl _⟩ (fun r I2 P2 => ?_)
          obtain ⟨rfl, rfl⟩ := P2
          obtain ⟨o2, m2⟩ := h1.setH (I' := xup I1 y 13 0) (xs := []) hok.1 (fun a k q => by rw [xup_ap, if_neg (fun r => q (Or.inl (Or.inl r)))]) ⟨⟨by rw [xup_ap, if_pos ⟨rfl, rfl⟩]; rfl, by simp, BsOk.nil⟩, Rw.nil⟩
          exact V_iret D rfl rfl ⟨rfl, rfl, rfl, rfl, by rw [xup_ap, if_neg (by omega)]; exact z1, fun a ha => by rw [o2 a ha, out1 a ha], m2⟩
        · have et : tk x.2.2 g p' = (0, wr (3, 0, g.2.2.1, [], [], []), x.2.2) := by unfold tk; rw [if_neg (by omega), if_pos hc, if_pos c5]
          rw [et]
          refine V_run D [] 85 rfl trivial ?_
          refine V_mdV (av := []) (st := []) D mwX10_resets rfl lkX10_X10_resets (r_resets hS gm.1.2.2 hg3) hS.1 rfl ⟨Nat.le_refl _, Nat.le_refl _⟩ (fun r I2 P2 => ?_)
          obtain ⟨rfl, f2, h2⟩ := P2
          have k2 : ∀ a k, ¬ Hb y a k → ¬ Mb y 2 a k → I2 a k = I1 a k := fun a k q1 q2 => f2 a k (fun r => r.elim q1 q2)
          obtain ⟨q1, q2, q3, q4, q5, q6⟩ := _root_.id h1
          refine V_run D [] 95 rfl trivial ?_
          refine V_iret D rfl rfl ⟨rfl, rfl, rfl, rfl, by rw [k2 _ _ (by unfold Hb; omega) (by unfold Mb Ob; omega)]; exact z1, fun a ha => ?_, h1.setS hok.1 (fun a k q => k2 a k (by unfold Mb Ob at q; unfold Hb; omega) (by unfold Mb Ob at q ⊢; omega)) h2 (q4.kept (fun a k q => k2 a k (by unfold Rb at q; unfold Hb; omega) (by unfold Rb at q; unfold Mb Ob; omega))) (q5.kept (fun a k q => k2 a k (by unfold Cb at q; unfold Hb; omega) (by unfold Cb at q; unfold Mb Ob; omega))) (q6.kept (fun a k q => k2 a k (by unfold Sb at q; unfold Hb; omega) (by unfold Sb at q; unfold Mb Ob; omega)))⟩
          rw [← out1 a ha]
          exact funext fun k => k2 a k (by unfold Hb; omega) (by unfold Mb Ob; omega)
      refine V_run D [] 61 rfl ⟨hS.a2 (by omega), hS.1, trivial⟩ ?_
      rw [hS.n2, show ((1 : Int)).toNat = 1 from rfl, gm.1.2.1]
      refine V_eq D 75 rfl rfl (by omega) (fun c4 => V_loc [some (.inr (.inr y))] rfl (nores (Or.inl c4))) (fun c4 => ?_)
      refine V_run D [] 72 rfl ⟨hS.a2 (by omega), hS.1, trivial⟩ ?_
      rw [hS.n2, show ((1 : Int)).toNat = 1 from rfl, gm.1.2.1]
      refine V_ile D 96 rfl rfl (by omega) (by omega) (fun c5 => ?_) (fun c5 => V_loc [some (.inr (.inr y))] rfl (nores (Or.inr (by omega))))
      have hs := hok.2
      have hPr := hs.2.2.2.2 p' (by omega)
      have hSS := h1.2.2.2.2.2 p' (by omega)
      have hct := hcnt p' (by omega)
      refine V_run D [98] 98 rfl trivial ?_
      refine ls_find (c2 := -0) D hS (by omega) (ring := (x.2.2.2.2 p').1) (n := (x.2.2.2.2 p').2) hPr hSS.1 (by omega) hSS.2 gm.1.2.2 hg3 (fun hno lv l0 l1 l2 => ?_) (fun k hk1 hk2 hf c3' => ?_) 8 0 (Nat.zero_add _) (Nat.zero_le _) _ rfl rfl rfl rfl
      · have et : tk x.2.2 g p' = ((act x.2.2.1.1 x.2.2.1.2 g).1.1, wr (ansM x.2.2 g), ((act x.2.2.1.1 x.2.2.1.2 g).2, (x.2.2.2.1.1 + 1, x.2.2.2.1.2.1, (if g.1 = 0 then x.2.2.2.1.2.2 else (x.2.2.2.1.2.2 + 1) % 65536)), va_up x.2.2.2.2 p' ((x.2.2.2.2 p').1.set ((x.2.2.2.2 p').2 % 8) (g.2.2.1, wr (ansM x.2.2 g)), (x.2.2.2.2 p').2 + 1))) := by
          unfold tk; rw [if_neg (by omega), if_neg (by omega), if_neg hno]
        rw [et]
        refine ls_new D h1 hok gm hm hle (by omega) (by omega) (by omega) hct (fun J k6 m6 => ?_) lv l0 l1 l2
        refine V_iret D rfl rfl ⟨rfl, rfl, rfl, rfl, ?_, fun a ha => ?_, m6⟩
        · rw [k6 _ _ (by unfold Fx Mb Ob Hb Rb Cb Sb; omega)]; exact z1
        · rw [← out1 a ha]
          exact funext fun k => k6 a k (by unfold Fx Mb Ob Hb Rb Cb Sb; omega)
      · have et : tk x.2.2 g p' = (bat (od (x.2.2.2.2 p').1 k).2 1, (od (x.2.2.2.2 p').1 k).2, (x.2.2.1, (x.2.2.2.1.1, x.2.2.2.1.2.1 + 1, x.2.2.2.1.2.2), x.2.2.2.2)) := by
          unfold tk; rw [if_neg (by omega), if_neg (by omega), hf, if_pos hk1]
        rw [et]
        obtain ⟨e1, e2, e3, e4⟩ := (hPr.2 k hk1).2 hk2
        obtain ⟨q1, q2, q3, q4, q5, q6⟩ := _root_.id h1
        refine ls_rep D hS (hSS.2 k hk1 hk2) (by omega) e4 e2 q5.2.1 (fun J fJ j25 hJ => ?_)
        have kJ : ∀ a k, ¬ Hb y a k → ¬ (a = y ∧ k = 25) → J a k = I1 a k := fun a k r1 r2 => fJ a k (fun r => r.elim r1 r2)
        refine V_iret D rfl rfl ⟨rfl, rfl, rfl, rfl, ?_, fun a ha => ?_, h1.setS hok.1 (fun a k q => kJ a k (by unfold Mb Ob at q; unfold Hb; omega) (by unfold Mb Ob at q; omega)) hJ (q4.kept (fun a k q => kJ a k (by unfold Rb at q; unfold Hb; omega) (by unfold Rb at q; omega))) ⟨?_, j25, ?_⟩ (q6.kept (fun a k q => kJ a k (by unfold Sb at q; unfold Hb; omega) (by unfold Sb at q; omega)))⟩
        · rw [kJ _ _ (by unfold Hb; omega) (by omega)]; exact z1
        · rw [← out1 a ha]
          exact funext fun k => kJ a k (by unfold Hb; omega) (by omega)
        · rw [kJ _ _ (by unfold Hb; omega) (by omega)]; exact q5.1
        · rw [kJ _ _ (by unfold Hb; omega) (by omega)]; exact q5.2.2
    · have et : tk x.2.2 g p' = (-1, [], x.2.2) := by unfold tk; rw [if_pos (by omega)]
      exact non (by rw [et]) _ rfl
  · refine V_gt D 50 rfl rfl (by omega) (fun _ => non ?_ _ rfl) (fun q => absurd q (by omega))
    unfold dServe
    rw [if_neg (by omega), if_pos (Or.inl (by omega))]
end XRef23
