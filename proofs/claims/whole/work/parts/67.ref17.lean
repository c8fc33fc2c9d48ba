/-- the path of resource r -/
def PB (I : xI) (y r : Nat) (ps : List (List Int)) : Prop := I (y + 13) r = (ps.length : Int) ∧ ∀ p, p < ps.length → I (y + 14) (20 * r + p) = ((ps.getD p []).length : Int) ∧ Rw (I (y + 15)) (400 * (20 * r + p)) (ps.getD p [])
/-- where its path lies; where it lies -/
def Pb (y r a k : Nat) : Prop := (a = y + 13 ∧ k = r) ∨ (a = y + 14 ∧ 20 * r ≤ k ∧ k < 20 * r + 20) ∨ (a = y + 15 ∧ 8000 * r ≤ k ∧ k < 8000 * r + 8000)
def Qb (y r a k : Nat) : Prop := Pb y r a k ∨ ((a = y + 16 ∨ a = y + 18) ∧ k = r) ∨ (a = y + 17 ∧ 400 * r ≤ k ∧ k < 400 * r + 400)
theorem getD_app1 {ps : List (List Int)} {v : List Int} {p : Nat} (h : p < ps.length) : (ps ++ [v]).getD p [] = ps.getD p [] := by
  rw [List.getD_eq_getElem?_getD, List.getD_eq_getElem?_getD, List.getElem?_append_left h]
theorem getD_app2 {ps : List (List Int)} {v : List Int} : (ps ++ [v]).getD ps.length [] = v := by simp
section XRef17
variable {Γ : xG} {E : xE} {M : xM} {z : Nat} {T : xY} {I I' J : xI} {N : xN} {y m lev mc ms ce sl pc idx i p r n : Nat} {os : List Opt} {g : Msg} {w : Res} {xs v : List Int} {Q : State → Prop} {lv : xL} {q : Opt} {rs : List Res}
theorem RB.keptQ {x : Res} (h : RB I y r x) (hx : ROk x) (hk : ∀ a k, Qb y r a k → I' a k = I a k) : RB I' y r x := by
  obtain ⟨h1, h2, h3, h4, h5⟩ := h
  obtain ⟨k1, k2, k3, k4, k5⟩ := hx
  refine ⟨by rw [hk _ _ (by unfold Qb Pb; omega)]; exact h1, fun p hp => ⟨by rw [hk _ _ (by unfold Qb Pb; omega)]; exact (h2 p hp).1, (h2 p hp).2.kept (fun j hj => ?_)⟩, by rw [hk _ _ (by unfold Qb Pb; omega)]; exact h3, h4.kept (fun j hj => hk _ _ (by unfold Qb Pb; omega)), by rw [hk _ _ (by unfold Qb Pb; omega)]; exact h5⟩
  have hmem : x.1.getD p [] ∈ x.1 := by rw [List.getD_eq_getElem?_getD, List.getElem?_eq_getElem hp]; exact List.getElem_mem _
  have := (k5 _ hmem).2
  exact hk _ _ (by unfold Qb Pb; omega)
def mkP (z : Nat) (T : xY) (N : xN) (I : xI) (y r : Nat) (ps : List (List Int)) : xPo := xMd z T N fun rr I' => rr = some (.inl (r : Int)) ∧ Fr (fun a k => Pb y r a k ∨ (a = y ∧ k = 16)) I I' ∧ I' y 16 = (r : Int) + 1 ∧ PB I' y r ps
theorem lr_makes (D : xD Γ E mX10_makes 0 0 0) (h : MdS T N y) (hO : OO I y 1 os) (hL : OL os) (hn : os.length ≤ 20) (hr : r < 16) : ∀ d i (J : xI), i + d = os.length → Fr (fun a k => Pb y r a k ∨ (a = y ∧ k = 16)) I J → J y 16 = (r : Int) + 1 → PB J y r (pth (os.take i)) → ∀ lv : xL, lv 0 = some (.inr (.inr y)) → lv 1 = some (.inl (r : Int)) → lv 2 = some (.inl ((21 * 1 + i : Nat) : Int)) →
    V Γ E (xQ Γ E (mkP z T N I y r (pth os)) 0 0) z T J N 0 0 25 lv []
  | 0, i, J, hi, fJ, j16, pJ, lv, l0, l1, l2 => by
    obtain rfl : i = os.length := by omega
    have o6 : J (y + 6) 1 = (os.length : Int) := by rw [fJ _ _ (by unfold Pb; omega)]; exact hO.1
    refine V_lv (lv' := xlv [some (.inr (.inr y)), some (.inl (r : Int)), some (.inl ((21 * 1 + os.length : Nat) : Int))]) (fun j v hj => by match j, hj with | 0, hj => exact l0.trans hj | 1, hj => exact l1.trans hj | 2, hj => exact l2.trans hj) ?_
    refine V_run D [] 35 rfl ⟨h.a6 (by omega), h.1, trivial⟩ ?_
    rw [h.n6, show ((1 : Int)).toNat = 1 from rfl, o6]
    refine V_ige D 135 rfl rfl (by omega) (by omega) (fun _ => ?_) (fun q => absurd q (by omega))
    refine V_run D [] 136 rfl trivial ?_
    rw [List.take_length] at pJ
    exact V_iret D rfl rfl ⟨rfl, rfl, rfl, rfl, fJ, j16, pJ⟩
  | d + 1, i, J, hi, fJ, j16, pJ, lv, l0, l1, l2 => by
    have o6 : J (y + 6) 1 = (os.length : Int) := by rw [fJ _ _ (by unfold Pb; omega)]; exact hO.1
    obtain ⟨v1, v2, v3⟩ := hL i (by omega)
    obtain ⟨o1, o2, o3⟩ := (hO.2 i (by omega)).kept (I' := J) v2 (fJ _ _ (by unfold Pb; omega)) (fJ _ _ (by unfold Pb; omega)) (fun k _ _ => fJ _ _ (by unfold Pb; omega))
    have hpl := pth_len_le (os.take i)
    rw [List.length_take] at hpl
    have ih := lr_makes D h hO hL hn hr d (i + 1)
    rw [ptk (by omega)] at ih
    refine V_lv (lv' := xlv [some (.inr (.inr y)), some (.inl (r : Int)), some (.inl ((21 * 1 + i : Nat) : Int))]) (fun j v hj => by match j, hj with | 0, hj => exact l0.trans hj | 1, hj => exact l1.trans hj | 2, hj => exact l2.trans hj) ?_
    refine V_run D [] 35 rfl ⟨h.a6 (by omega), h.1, trivial⟩ ?_
    rw [h.n6, show ((1 : Int)).toNat = 1 from rfl, o6]
    refine V_ige D 135 rfl rfl (by omega) (by omega) (fun q => absurd q (by omega)) (fun _ => ?_)
    refine V_run D [] 46 rfl ⟨h.a7 (by omega), h.1, trivial⟩ ?_
    rw [h.n7, Int.toNat_natCast, o1]
    refine V_ine D 129 rfl rfl (by omega) (by omega) (fun c => ?_) (fun c => ?_)
    · rw [if_neg c] at ih
      refine V_run D [25] 25 rfl trivial ?_
      exact ih J (by omega) fJ j16 pJ _ rfl rfl rfl
    · rw [if_pos c] at ih
      generalize hps : pth (os.take i) = ps at *
      generalize hq : (od os i).2 = v at *
      obtain ⟨p1, p2⟩ := pJ
      refine V_run D [76] 76 rfl ⟨by rw [Int.toNat_natCast, h.n13, p1]; exact h.a14 (by omega), h.a8 (by omega), h.1, h.1, h.a13 (by omega), h.1, trivial⟩ ?_
      rw [h.n8, h.n13, h.n14, Int.toNat_natCast, Int.toNat_natCast, p1, o2, show (20 * (r : Int) + (ps.length : Int)).toNat = 20 * r + ps.length by omega, show (20 * (r : Int) + (ps.length : Int)) = ((20 * r + ps.length : Nat) : Int) by omega]
      generalize hK : xup J (y + 14) (20 * r + ps.length) (v.length : Int) = K
      have k8 : ∀ n, n ≤ 400 → cpy K (y + 15) (400 * (20 * r + ps.length)) (fun k => K (y + 9) (400 * (21 * 1 + i) + k)) n (y + 8) (21 * 1 + i) = (v.length : Int) := fun n _ => by rw [cpy_out (by omega), ← hK, ← o2]; (simp only [xup_ap, true_and, and_true, if_true, if_false]; repeat (first | rw [if_neg (by omega)] | rw [if_pos (by omega)]))
      rw [← cpy_0 K (y + 15) (400 * (20 * r + ps.length)) (fun k => K (y + 9) (400 * (21 * 1 + i) + k))]
      refine V_loc [some (.inr (.inr y)), some (.inl (r : Int)), some (.inl ((21 * 1 + i : Nat) : Int)), some (.inl ((20 * r + ps.length : Nat) : Int)), some (.inl ((0 : Nat) : Int))] rfl ?_
      refine xdn (P := fun k => V Γ E (xQ Γ E (mkP z T N I y r (pth os)) 0 0) z T (cpy K (y + 15) (400 * (20 * r + ps.length)) (fun k => K (y + 9) (400 * (21 * 1 + i) + k)) k) N 0 0 76 (xlv [some (.inr (.inr y)), some (.inl (r : Int)), some (.inl ((21 * 1 + i : Nat) : Int)), some (.inl ((20 * r + ps.length : Nat) : Int)), some (.inl (k : Int))]) []) v.length ?_ (fun k hk ih2 => ?_)
      · refine V_run D [] 84 rfl ⟨h.a8 (by omega), h.1, trivial⟩ ?_
        rw [h.n8, Int.toNat_natCast, k8 _ v2]
        refine V_ige D 119 rfl rfl (by omega) (by omega) (fun _ => ?_) (fun q => absurd q (by omega))
        have k13 : cpy K (y + 15) (400 * (20 * r + ps.length)) (fun k => K (y + 9) (400 * (21 * 1 + i) + k)) v.length (y + 13) r = (ps.length : Int) := by rw [cpy_out (by omega), ← hK, ← p1]; (simp only [xup_ap, true_and, and_true, if_true, if_false]; repeat (first | rw [if_neg (by omega)] | rw [if_pos (by omega)]))
        refine V_run D [25] 25 rfl ⟨h.a13 (by omega), h.a13 (by omega), h.1, trivial⟩ ?_
        rw [h.n13, Int.toNat_natCast, k13]
        have kJ : ∀ a k, ¬ (a = y + 13 ∧ k = r) → ¬ (a = y + 14 ∧ k = 20 * r + ps.length) → ¬ (a = y + 15 ∧ 400 * (20 * r + ps.length) ≤ k ∧ k < 400 * (20 * r + ps.length) + v.length) → xup (cpy K (y + 15) (400 * (20 * r + ps.length)) (fun k => K (y + 9) (400 * (21 * 1 + i) + k)) v.length) (y + 13) r ((ps.length : Int) + 1) a k = J a k := fun a k q1 q2 q3 => by
          rw [xup_ap, if_neg q1, cpy_out q3, ← hK, xup_ap, if_neg q2]
        refine ih _ (by omega) (fun a k q => ?_) ?_ ⟨?_, fun p hp => ?_⟩ _ rfl rfl rfl
        · rw [kJ a k (fun s => q (by unfold Pb; omega)) (fun s => q (by unfold Pb; omega)) (fun s => q (by unfold Pb; omega))]; exact fJ a k q
        · rw [kJ _ _ (by omega) (by omega) (by omega)]; exact j16
        · rw [xup_ap, if_pos ⟨rfl, rfl⟩]; simp
        · rw [List.length_append, List.length_singleton] at hp
          by_cases cp : p < ps.length
          · rw [getD_app1 cp]
            obtain ⟨s1, s2⟩ := p2 p cp
            have hmem : ps.getD p [] ∈ ps := by rw [List.getD_eq_getElem?_getD, List.getElem?_eq_getElem cp]; exact List.getElem_mem _
            have hlen : (ps.getD p []).length ≤ 400 := by
              rw [← hps] at hmem ⊢
              unfold pth at hmem ⊢
              obtain ⟨q, hq, e⟩ := List.mem_map.mp hmem
              have hq' := List.mem_of_mem_take (List.mem_filter.mp hq).1
              obtain ⟨k, hk, e2⟩ := List.getElem_of_mem hq'
              have := (hL k hk).2.1
              rw [od_get hk, e2] at this
              rw [← e]; exact this
            exact ⟨by rw [kJ _ _ (by omega) (by omega) (by omega)]; exact s1, s2.kept (fun j hj => kJ _ _ (by omega) (by omega) (by omega))⟩
          · obtain rfl : p = ps.length := by omega
            rw [getD_app2]
            refine ⟨?_, fun j hj => ?_⟩
            · rw [xup_ap, if_neg (by omega), cpy_out (by omega), ← hK]; (simp only [xup_ap, true_and, and_true, if_true, if_false]; repeat (first | rw [if_neg (by omega)] | rw [if_pos (by omega)]))
            · rw [xup_ap, if_neg (by omega), cpy_in hj, ← hK, xup_ap, if_neg (by omega), o3 j hj]
      · refine V_run D [] 84 rfl ⟨h.a8 (by omega), h.1, trivial⟩ ?_
        rw [h.n8, Int.toNat_natCast, k8 _ (by omega)]
        refine V_ige D 119 rfl rfl (by omega) (by omega) (fun q => absurd q (by omega)) (fun _ => ?_)
        refine V_run D [76] 76 rfl ⟨h.a15 (by omega), h.a9 (by omega), h.1, h.1, trivial⟩ ?_
        rw [h.n9, h.n15, show (400 * ((20 * r + ps.length : Nat) : Int) + (k : Int)).toNat = 400 * (20 * r + ps.length) + k by omega, show (400 * ((21 * 1 + i : Nat) : Int) + (k : Int)).toNat = 400 * (21 * 1 + i) + k by omega, cpy_out (by omega)]
        have st := cpy_step K (y + 15) (400 * (20 * r + ps.length)) (fun k => K (y + 9) (400 * (21 * 1 + i) + k)) k
        rw [st]
        exact V_loc [some (.inr (.inr y)), some (.inl (r : Int)), some (.inl ((21 * 1 + i : Nat) : Int)), some (.inl ((20 * r + ps.length : Nat) : Int)), some (.inl ((k + 1 : Nat) : Int))] rfl ih2
theorem r_makes (h : MdS T N y) (hO : OO I y 1 os) (hL : OL os) (hn : os.length ≤ 20) (hr : r < 16) (h16 : I y 16 = (r : Int)) : Spec mX10_makes 0 [.inr (.inr y)] z T I N 0 0 (mkP z T N I y r (pth os)) := by
  refine Spec_of okX10_makes (by decide) (by decide) (Nat.le_of_ble_eq_true rfl) fun Γ E D => ?_
  refine V_run D [25] 25 rfl ⟨by rw [h16]; exact h.a13 (by omega), h.1, h.1, h.1, h.1, trivial⟩ ?_
  rw [h.n13, h16, Int.toNat_natCast]
  refine lr_makes D h hO hL hn hr _ 0 _ (Nat.zero_add _) (fun a k q => ?_) ?_ ⟨?_, fun p hp => by simp [pth] at hp⟩ _ rfl rfl rfl
  · rw [xup_ap, if_neg (fun s => q (by unfold Pb; omega)), xup_ap, if_neg (fun s => q (by unfold Pb; omega))]
  · (simp only [xup_ap, true_and, and_true, if_true, if_false]; repeat (first | rw [if_neg (by omega)] | rw [if_pos (by omega)]))
  · rw [xup_ap, if_pos ⟨rfl, rfl⟩]; simp [pth]
end XRef17
