section XRef18
variable {Γ : xG} {E : xE} {M : xM} {z : Nat} {T : xY} {I I' J : xI} {N : xN} {y m lev mc ms ce sl pc idx i p r n k : Nat} {os : List Opt} {g : Msg} {x w : Res} {xs v : List Int} {Q : State → Prop} {lv : xL} {q : Opt} {rs : List Res}
/-- resource k + 1 comes to place k: contents and tag -/
theorem lr_goesC (D : xD Γ E mX10_goes 0 0 0) (h : MdS T N y) (hk : k + 1 < 16) (hR : RB J y (k + 1) x) (hx : ROk x) (hP : PB J y k x.1) {rr : Int}
    (K : ∀ J', Fr (Qb y k) J J' → RB J' y k x → ∀ lv, lv 0 = some (.inr (.inr y)) → lv 1 = some (.inl rr) → lv 2 = some (.inl ((k + 1 : Nat) : Int)) → V Γ E Q z T J' N 0 0 2 lv []) (lv : xL) (l0 : lv 0 = some (.inr (.inr y))) (l1 : lv 1 = some (.inl rr)) (l2 : lv 2 = some (.inl (k : Int))) :
    V Γ E Q z T J N 0 0 133 lv [] := by
  obtain ⟨h1, h2, h3, h4, h5⟩ := hR
  obtain ⟨k1, k2, k3, k4, k5⟩ := hx
  refine V_lv (lv' := xlv [some (.inr (.inr y)), some (.inl rr), some (.inl (k : Int))]) (fun j v hj => by match j, hj with | 0, hj => exact l0.trans hj | 1, hj => exact l1.trans hj | 2, hj => exact l2.trans hj) ?_
  refine V_run D [149] 149 rfl ⟨h.a16 (by omega), h.a16 (by omega), h.1, h.1, trivial⟩ ?_
  rw [h.n16, Int.toNat_natCast, show ((k : Int) + 1).toNat = k + 1 by omega, h3]
  generalize hJ1 : xup J (y + 16) k (x.2.1.length : Int) = J1
  have c16 : ∀ n, n ≤ 400 → cpy J1 (y + 17) (400 * k) (fun i => J1 (y + 17) (400 * (k + 1) + i)) n (y + 16) k = (x.2.1.length : Int) := fun n _ => by rw [cpy_out (by omega), ← hJ1]; (simp only [xup_ap, true_and, and_true, if_true, if_false]; repeat (first | rw [if_neg (by omega)] | rw [if_pos (by omega)]))
  rw [← cpy_0 J1 (y + 17) (400 * k) (fun i => J1 (y + 17) (400 * (k + 1) + i))]
  refine V_loc [some (.inr (.inr y)), some (.inl rr), some (.inl (k : Int)), some (.inl ((0 : Nat) : Int))] rfl ?_
  refine xdn (P := fun i => V Γ E Q z T (cpy J1 (y + 17) (400 * k) (fun i => J1 (y + 17) (400 * (k + 1) + i)) i) N 0 0 149 (xlv [some (.inr (.inr y)), some (.inl rr), some (.inl (k : Int)), some (.inl (i : Int))]) []) x.2.1.length ?_ (fun i hi ih => ?_)
  · refine V_run D [] 156 rfl ⟨h.a16 (by omega), h.1, trivial⟩ ?_
    rw [h.n16, Int.toNat_natCast, c16 _ k3]
    refine V_ige D 193 rfl rfl (by omega) (by omega) (fun _ => ?_) (fun q => absurd q (by omega))
    have c18 : cpy J1 (y + 17) (400 * k) (fun i => J1 (y + 17) (400 * (k + 1) + i)) x.2.1.length (y + 18) (k + 1) = x.2.2 := by rw [cpy_out (by omega), ← hJ1, ← h5]; (simp only [xup_ap, true_and, and_true, if_true, if_false]; repeat (first | rw [if_neg (by omega)] | rw [if_pos (by omega)]))
    refine V_run D [2] 2 rfl ⟨h.a18 (by omega), h.a18 (by omega), h.1, h.1, trivial⟩ ?_
    rw [h.n18, Int.toNat_natCast, show ((k : Int) + 1).toNat = k + 1 by omega, c18]
    have kJ : ∀ a j, ¬ ((a = y + 16 ∨ a = y + 18) ∧ j = k) → ¬ (a = y + 17 ∧ 400 * k ≤ j ∧ j < 400 * k + 400) → xup (cpy J1 (y + 17) (400 * k) (fun i => J1 (y + 17) (400 * (k + 1) + i)) x.2.1.length) (y + 18) k x.2.2 a j = J a j := fun a j q1 q2 => by
      rw [xup_ap, if_neg (by omega), cpy_out (by omega), ← hJ1, xup_ap, if_neg (by omega)]
    refine K _ (fun a j q => kJ a j (fun s => q (by unfold Qb; omega)) (fun s => q (by unfold Qb; omega))) ⟨?_, fun p hp => ⟨?_, (hP.2 p hp).2.kept (fun j _ => kJ _ _ (by omega) (by omega))⟩, ?_, fun j hj => ?_, ?_⟩ _ rfl rfl rfl
    · rw [kJ _ _ (by omega) (by omega)]; exact hP.1
    · rw [kJ _ _ (by omega) (by omega)]; exact (hP.2 p hp).1
    · rw [xup_ap, if_neg (by omega), c16 _ k3]
    · rw [xup_ap, if_neg (by omega), cpy_in hj, ← hJ1, xup_ap, if_neg (by omega), h4 j hj]
    · rw [xup_ap, if_pos ⟨rfl, rfl⟩]
  · refine V_run D [] 156 rfl ⟨h.a16 (by omega), h.1, trivial⟩ ?_
    rw [h.n16, Int.toNat_natCast, c16 _ (by omega)]
    refine V_ige D 193 rfl rfl (by omega) (by omega) (fun q => absurd q (by omega)) (fun _ => ?_)
    refine V_run D [149] 149 rfl ⟨h.a17 (by omega), h.a17 (by omega), h.1, h.1, trivial⟩ ?_
    rw [h.n17, show (400 * (k : Int) + (i : Int)).toNat = 400 * k + i by omega, show (400 * (k : Int) + 400 + (i : Int)).toNat = 400 * (k + 1) + i by omega, cpy_out (by omega)]
    have st := cpy_step J1 (y + 17) (400 * k) (fun i => J1 (y + 17) (400 * (k + 1) + i)) i
    rw [st]
    exact V_loc [some (.inr (.inr y)), some (.inl rr), some (.inl (k : Int)), some (.inl ((i + 1 : Nat) : Int))] rfl ih
/-- and its path -/
theorem lr_goesP (D : xD Γ E mX10_goes 0 0 0) (h : MdS T N y) (hk : k + 1 < 16) (hR : RB J y (k + 1) x) (hx : ROk x) {rr : Int}
    (K : ∀ J', Fr (Pb y k) J J' → PB J' y k x.1 → ∀ lv, lv 0 = some (.inr (.inr y)) → lv 1 = some (.inl rr) → lv 2 = some (.inl (k : Int)) → V Γ E Q z T J' N 0 0 133 lv []) : ∀ d p (L : xI), p + d = x.1.length → Fr (Pb y k) J L → L (y + 13) k = (x.1.length : Int) → (∀ q, q < p → L (y + 14) (20 * k + q) = ((x.1.getD q []).length : Int) ∧ Rw (L (y + 15)) (400 * (20 * k + q)) (x.1.getD q [])) → ∀ lv : xL, lv 0 = some (.inr (.inr y)) → lv 1 = some (.inl rr) → lv 2 = some (.inl (k : Int)) → lv 3 = some (.inl (p : Int)) →
    V Γ E Q z T L N 0 0 28 lv []
  | 0, p, L, hp, fL, l13, hq, lv, l0, l1, l2, l3 => by
    obtain rfl : p = x.1.length := by omega
    have k4 := hx.2.2.2.1
    refine V_lv (lv' := xlv [some (.inr (.inr y)), some (.inl rr), some (.inl (k : Int)), some (.inl (x.1.length : Int))]) (fun j v hj => by match j, hj with | 0, hj => exact l0.trans hj | 1, hj => exact l1.trans hj | 2, hj => exact l2.trans hj | 3, hj => exact l3.trans hj) ?_
    refine V_run D [] 35 rfl ⟨h.a13 (by omega), h.1, trivial⟩ ?_
    rw [h.n13, Int.toNat_natCast, l13]
    exact V_ige D 133 rfl rfl (by omega) (by omega) (fun _ => K L fL ⟨l13, hq⟩ _ rfl rfl rfl) (fun q => absurd q (by omega))
  | d + 1, p, L, hp, fL, l13, hq, lv, l0, l1, l2, l3 => by
    have hR0 := hR
    obtain ⟨h1, h2, h3, h4, h5⟩ := hR
    have hx0 := hx
    obtain ⟨k1, k2, k3, k4, k5⟩ := hx
    obtain ⟨g1, g2⟩ := h2 p (by omega)
    have hmem : x.1.getD p [] ∈ x.1 := by rw [List.getD_eq_getElem?_getD, List.getElem?_eq_getElem (by omega)]; exact List.getElem_mem _
    obtain ⟨w1, w2⟩ := k5 _ hmem
    have ih := lr_goesP D h hk hR0 hx0 K d (p + 1)
    refine V_lv (lv' := xlv [some (.inr (.inr y)), some (.inl rr), some (.inl (k : Int)), some (.inl (p : Int))]) (fun j v hj => by match j, hj with | 0, hj => exact l0.trans hj | 1, hj => exact l1.trans hj | 2, hj => exact l2.trans hj | 3, hj => exact l3.trans hj) ?_
    have l14 : L (y + 14) (20 * (k + 1) + p) = ((x.1.getD p []).length : Int) := by rw [fL _ _ (by unfold Pb; omega)]; exact g1
    have l15 : Rw (L (y + 15)) (400 * (20 * (k + 1) + p)) (x.1.getD p []) := g2.kept (fun j hj => fL _ _ (by unfold Pb; omega))
    generalize hv : x.1.getD p [] = v at *
    refine V_run D [] 35 rfl ⟨h.a13 (by omega), h.1, trivial⟩ ?_
    rw [h.n13, Int.toNat_natCast, l13]
    refine V_ige D 133 rfl rfl (by omega) (by omega) (fun q => absurd q (by omega)) (fun _ => ?_)
    refine V_run D [66] 66 rfl ⟨h.a14 (by omega), h.a14 (by omega), h.1, h.1, trivial⟩ ?_
    rw [h.n14, show (20 * (k : Int) + (p : Int)).toNat = 20 * k + p by omega, show (20 * (k : Int) + 20 + (p : Int)).toNat = 20 * (k + 1) + p by omega, l14]
    generalize hL1 : xup L (y + 14) (20 * k + p) (v.length : Int) = L1
    have c14 : ∀ n, n ≤ 400 → cpy L1 (y + 15) (400 * (20 * k + p)) (fun i => L1 (y + 15) (400 * (20 * (k + 1) + p) + i)) n (y + 14) (20 * k + p) = (v.length : Int) := fun n _ => by rw [cpy_out (by omega), ← hL1]; (simp only [xup_ap, true_and, and_true, if_true, if_false]; repeat (first | rw [if_neg (by omega)] | rw [if_pos (by omega)]))
    rw [← cpy_0 L1 (y + 15) (400 * (20 * k + p)) (fun i => L1 (y + 15) (400 * (20 * (k + 1) + p) + i))]
    refine V_loc [some (.inr (.inr y)), some (.inl rr), some (.inl (k : Int)), some (.inl (p : Int)), some (.inl ((0 : Nat) : Int))] rfl ?_
    refine xdn (P := fun i => V Γ E Q z T (cpy L1 (y + 15) (400 * (20 * k + p)) (fun i => L1 (y + 15) (400 * (20 * (k + 1) + p) + i)) i) N 0 0 66 (xlv [some (.inr (.inr y)), some (.inl rr), some (.inl (k : Int)), some (.inl (p : Int)), some (.inl (i : Int))]) []) v.length ?_ (fun i hi ih2 => ?_)
    · refine V_run D [] 79 rfl ⟨h.a14 (by omega), h.1, trivial⟩ ?_
      rw [h.n14, show (20 * (k : Int) + (p : Int)).toNat = 20 * k + p by omega, c14 _ w2]
      refine V_ige D 127 rfl rfl (by omega) (by omega) (fun _ => ?_) (fun q => absurd q (by omega))
      refine V_run D [28] 28 rfl trivial ?_
      have kJ : ∀ a j, ¬ (a = y + 14 ∧ j = 20 * k + p) → ¬ (a = y + 15 ∧ 400 * (20 * k + p) ≤ j ∧ j < 400 * (20 * k + p) + v.length) → cpy L1 (y + 15) (400 * (20 * k + p)) (fun i => L1 (y + 15) (400 * (20 * (k + 1) + p) + i)) v.length a j = L a j := fun a j q1 q2 => by
        rw [cpy_out q2, ← hL1, xup_ap, if_neg q1]
      refine ih _ (by omega) (fun a j q => ?_) ?_ (fun q hq2 => ?_) _ rfl rfl rfl rfl
      · rw [kJ a j (fun s => q (by unfold Pb; omega)) (fun s => q (by unfold Pb; omega))]; exact fL a j q
      · rw [kJ _ _ (by omega) (by omega)]; exact l13
      · by_cases cq : q = p
        · subst cq
          rw [hv]
          refine ⟨c14 _ w2, fun j hj => ?_⟩
          rw [cpy_in hj, ← hL1, xup_ap, if_neg (by omega), l15 j hj]
        · obtain ⟨s1, s2⟩ := hq q (by omega)
          have hm2 : x.1.getD q [] ∈ x.1 := by rw [List.getD_eq_getElem?_getD, List.getElem?_eq_getElem (by omega)]; exact List.getElem_mem _
          have := (k5 _ hm2).2
          exact ⟨by rw [kJ _ _ (by omega) (by omega)]; exact s1, s2.kept (fun j hj => kJ _ _ (by omega) (by omega))⟩
    · refine V_run D [] 79 rfl ⟨h.a14 (by omega), h.1, trivial⟩ ?_
      rw [h.n14, show (20 * (k : Int) + (p : Int)).toNat = 20 * k + p by omega, c14 _ (by omega)]
      refine V_ige D 127 rfl rfl (by omega) (by omega) (fun q => absurd q (by omega)) (fun _ => ?_)
      refine V_run D [66] 66 rfl ⟨h.a15 (by omega), h.a15 (by omega), h.1, h.1, trivial⟩ ?_
      rw [h.n15, show (400 * (20 * (k : Int) + (p : Int)) + (i : Int)).toNat = 400 * (20 * k + p) + i by omega, show (400 * (20 * (k : Int) + 20 + (p : Int)) + (i : Int)).toNat = 400 * (20 * (k + 1) + p) + i by omega, cpy_out (by omega)]
      have st := cpy_step L1 (y + 15) (400 * (20 * k + p)) (fun i => L1 (y + 15) (400 * (20 * (k + 1) + p) + i)) i
      rw [st]
      exact V_loc [some (.inr (.inr y)), some (.inl rr), some (.inl (k : Int)), some (.inl (p : Int)), some (.inl ((i + 1 : Nat) : Int))] rfl ih2
def goP (z : Nat) (T : xY) (N : xN) (I : xI) (y : Nat) (rs : List Res) (tags : Int) : xPo := xMd z T N fun rr I' => rr = none ∧ Fr (Rb y) I I' ∧ RR I' y rs tags
theorem lr_goes (D : xD Γ E mX10_goes 0 0 0) (h : MdS T N y) {tags : Int} (hR : RR I y rs tags) (hrs : ∀ x ∈ rs, ROk x) (hrl : rs.length ≤ 16) (hr : r < rs.length) : ∀ d k (J : xI), k + 1 + d = rs.length → r ≤ k → Fr (fun a j => y + 13 ≤ a ∧ a ≤ y + 18) I J → (∀ j, j < rs.length → (j < r → RB J y j (rsd rs j)) ∧ (r ≤ j → j < k → RB J y j (rsd rs (j + 1))) ∧ (k ≤ j → RB J y j (rsd rs j))) → ∀ lv : xL, lv 0 = some (.inr (.inr y)) → lv 1 = some (.inl (r : Int)) → lv 2 = some (.inl (k : Int)) →
    V Γ E (xQ Γ E (goP z T N I y (rs.eraseIdx r) tags) 0 0) z T J N 0 0 2 lv []
  | 0, k, J, hk, hrk, fJ, hj, lv, l0, l1, l2 => by
    have j16 : J y 16 = (rs.length : Int) := by rw [fJ _ _ (by omega)]; exact hR.1
    have j17 : J y 17 = tags := by rw [fJ _ _ (by omega)]; exact hR.2.1
    refine V_lv (lv' := xlv [some (.inr (.inr y)), some (.inl (r : Int)), some (.inl (k : Int))]) (fun j v hj => by match j, hj with | 0, hj => exact l0.trans hj | 1, hj => exact l1.trans hj | 2, hj => exact l2.trans hj) ?_
    refine V_run D [] 9 rfl ⟨h.1, trivial⟩ ?_
    rw [j16]
    refine V_ige D 213 rfl rfl (by omega) (by omega) (fun _ => ?_) (fun q => absurd q (by omega))
    refine V_run D [] 223 rfl ⟨h.1, h.1, trivial⟩ ?_
    rw [j16]
    have el : (rs.eraseIdx r).length = rs.length - 1 := List.length_eraseIdx_of_lt hr
    refine V_vret D rfl rfl ⟨rfl, rfl, rfl, rfl, fun a j q => ?_, ?_, ?_, fun j hj2 => ?_⟩
    · rw [xup_ap, if_neg (fun s => q (by unfold Rb; omega)), fJ a j (fun s => q (by unfold Rb; omega))]
    · rw [xup_ap, if_pos ⟨rfl, rfl⟩, el]; omega
    · rw [xup_ap, if_neg (by omega)]; exact j17
    · rw [el] at hj2
      have hm := hj j (by omega)
      rw [rsd_erase]
      split
      · rename_i c; exact (hm.1 c).kept (fun a k h1 h2 => by rw [xup_ap, if_neg (by omega)])
      · rename_i c; exact (hm.2.1 (by omega) (by omega)).kept (fun a k h1 h2 => by rw [xup_ap, if_neg (by omega)])
  | d + 1, k, J, hk, hrk, fJ, hj, lv, l0, l1, l2 => by
    have j16 : J y 16 = (rs.length : Int) := by rw [fJ _ _ (by omega)]; exact hR.1
    have hx := hrs _ (rsd_mem (rs := rs) (k := k + 1) (by omega))
    have hR1 := (hj (k + 1) (by omega)).2.2 (by omega)
    have ih := lr_goes D h hR hrs hrl hr d (k + 1)
    have hok : ∀ j, j < rs.length → ROk (rsd rs j) := fun j hj => hrs _ (rsd_mem hj)
    generalize hxx : rsd rs (k + 1) = x at *
    refine V_lv (lv' := xlv [some (.inr (.inr y)), some (.inl (r : Int)), some (.inl (k : Int))]) (fun j v hj => by match j, hj with | 0, hj => exact l0.trans hj | 1, hj => exact l1.trans hj | 2, hj => exact l2.trans hj) ?_
    refine V_run D [] 9 rfl ⟨h.1, trivial⟩ ?_
    rw [j16]
    refine V_ige D 213 rfl rfl (by omega) (by omega) (fun q => absurd q (by omega)) (fun _ => ?_)
    refine V_run D [28] 28 rfl ⟨h.a13 (by omega), h.a13 (by omega), h.1, h.1, trivial⟩ ?_
    rw [h.n13, Int.toNat_natCast, show ((k : Int) + 1).toNat = k + 1 by omega, hR1.1]
    refine lr_goesP (J := J) (x := x) (rr := (r : Int)) D h (by omega) hR1 hx (fun J1 f1 p1 lv' m0 m1 m2 => ?_) _ 0 _ (Nat.zero_add _) (fun a j q => ?_) ?_ (fun q hq => absurd hq (by omega)) _ rfl rfl rfl rfl
    · have hR2 : RB J1 y (k + 1) x := hR1.keptQ hx (fun a j q => f1 a j (by unfold Qb Pb at q; unfold Pb; omega))
      refine lr_goesC D h (by omega) hR2 hx p1 (fun J2 f2 b2 lv' n0 n1 n2 => ?_) lv' m0 m1 m2
      have fQ : Fr (Qb y k) J J2 := (f1.wide (fun a j q => Or.inl q)).trans f2
      have keep : ∀ j, j < rs.length → j ≠ k → ∀ {u : Res}, ROk u → RB J y j u → RB J2 y j u := fun j _ hne u hu hb => hb.keptQ hu (fun a i q => fQ a i (by unfold Qb Pb at q ⊢; omega))
      refine ih J2 (by omega) (by omega) (fJ.trans (fQ.wide (fun a j q => by unfold Qb Pb at q; omega))) (fun j hj2 => ⟨fun c => ?_, fun c1 c2 => ?_, fun c => ?_⟩) lv' n0 n1 n2
      · exact keep j hj2 (by omega) (hok j hj2) ((hj j hj2).1 c)
      · by_cases cj : j = k
        · rw [cj, hxx]; exact b2
        · exact keep j hj2 cj (hok (j + 1) (by omega)) ((hj j hj2).2.1 c1 (by omega))
      · exact keep j hj2 (by omega) (hok j hj2) ((hj j hj2).2.2 (by omega))
    · rw [xup_ap, if_neg (fun s => q (by unfold Pb; omega))]
    · rw [xup_ap, if_pos ⟨rfl, rfl⟩]
theorem r_goes (h : MdS T N y) {tags : Int} (hR : RR I y rs tags) (hrs : ∀ x ∈ rs, ROk x) (hrl : rs.length ≤ 16) (hr : r < rs.length) : Spec mX10_goes 0 [.inr (.inr y), .inl (r : Int)] z T I N 0 0 (goP z T N I y (rs.eraseIdx r) tags) := by
  refine Spec_of okX10_goes (by decide) (by decide) (Nat.le_of_ble_eq_true rfl) fun Γ E D => ?_
  refine V_run D [2] 2 rfl trivial ?_
  exact lr_goes D h hR hrs hrl hr (rs.length - r - 1) r I (by omega) (Nat.le_refl _) Fr.rf (fun j hj => ⟨fun _ => hR.2.2 j hj, fun c1 c2 => absurd c1 (by omega), fun _ => hR.2.2 j hj⟩) _ rfl rfl rfl
end XRef18
