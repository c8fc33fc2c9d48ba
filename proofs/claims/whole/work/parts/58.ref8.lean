section XRef8
variable {Γ : xG} {E : xE} {M : xM} {z : Nat} {T : xY} {I I' : xI} {N : xN} {y m lev mc ms ce sl pc idx i : Nat} {os : List Opt} {g : Msg} {x : Dk} {xs : List Int} {Q : State → Prop} {lv : xL} {q : Opt}
theorem r_byteOf {p i : Int} (h : MdAt T I N y x) (hok : MOk x.2.1.1) (h3 : xIn p) (h4 : xIn i) : Spec mX10_byteOf 1 [.inr (.inr y), .inl p, .inl i] z T I N 0 0 (MdP z T I N y rI (dByteOf x p i)) := by
  have hS := h.1
  have hn := h.2.2.1.2.1
  have hL := OL_of hok.2.2.2.2.1 (Int.le_refl _)
  have k1 := hok.2.2.2.1.2
  have k2 := hok.2.2.2.2.2.2
  obtain ⟨⟨a1, a2, a3⟩, ⟨b1, b2⟩, c, d1, d2⟩ := h.2.2.1.1
  have n0 : ∀ a, a ≠ y → xup I y 0 0 a = I a := fun a ha => xup_ne ha
  refine Spec_of okX10_byteOf (by decide) (by decide) (Nat.le_of_ble_eq_true rfl) fun Γ E D => ?_
  have bad : ¬ (-2 ≤ p ∧ p < x.2.1.1.2.2.2.2.1.length) → V Γ E (xQ Γ E (MdP z T I N y rI (dByteOf x p i)) 0 0) z T I N 0 0 17 (xent [.inr (.inr y), .inl p, .inl i] 0) [.inr (.inr y)] := fun hc => by
    have e : dByteOf x p i = (1, 0, x) := by unfold dByteOf; rw [if_neg (by omega), if_neg (by omega), if_neg (by omega)]
    rw [e]
    refine V_run D [] 22 rfl trivial ?_
    refine V_ref1 D hS rfl lkX10_X10_refuses (by omega) 30 rfl rfl rfl ⟨Nat.le_refl _, Nat.le_refl _⟩ ?_
    refine V_run D [] 29 rfl trivial ?_
    exact V_iret D rfl rfl (MdP.no h hok 1 rfl)
  have fin : ∀ (v : List Int), v.length ≤ 400 → dByteOf x p i = (0, bat v i, x) → (∀ lv, lv 0 = some (.inr (.inr y)) → lv 1 = some (.inl p) → lv 2 = some (.inl i) → 0 ≤ i → i < v.length → V Γ E (xQ Γ E (MdP z T I N y rI (dByteOf x p i)) 0 0) z T (xup I y 0 0) N 0 0 77 lv []) →
      V Γ E (xQ Γ E (MdP z T I N y rI (dByteOf x p i)) 0 0) z T (xup I y 0 0) N 0 0 65 (xent [.inr (.inr y), .inl p, .inl i] 0) [.inl (v.length : Int)] := fun v hv e K => by
    have no : bat v i = -1 → ∀ lv, V Γ E (xQ Γ E (MdP z T I N y rI (dByteOf x p i)) 0 0) z T (xup I y 0 0) N 0 0 75 lv [] := fun hc lv => by
      rw [e, hc]
      refine V_run D [] 76 rfl trivial ?_
      exact V_iret D rfl rfl (MdP.ok h hok rfl)
    refine V_run D [] 67 rfl trivial ?_
    refine V_lt D 75 rfl rfl h4 (fun q => no (by unfold bat; rw [if_neg (by omega)]) _) (fun c1 => ?_)
    refine V_run D [] 72 rfl trivial ?_
    refine V_ilt D 77 rfl rfl h4 (by omega) (fun c2 => K _ rfl rfl rfl (by omega) (by omega)) (fun q => no (by unfold bat; rw [if_neg (by omega)]) _)
  refine V_run D [] 4 rfl trivial ?_
  refine V_ilt D 17 rfl rfl h3 (by omega) (fun q => bad (by omega)) (fun c1 => ?_)
  refine V_run D [] 14 rfl ⟨hS.a6 (by omega), hS.1, trivial⟩ ?_
  rw [hS.n6, show ((0 : Int)).toNat = 0 from rfl, c.1]
  refine V_ilt D 21 rfl rfl h3 (by omega) (fun c2 => ?_) (fun q => bad (by omega))
  refine V_run D [] 22 rfl trivial ?_
  refine V_ref0 D hS rfl lkX10_X10_refuses 30 rfl rfl rfl ⟨Nat.le_refl _, Nat.le_refl _⟩ ?_
  refine V_run D [] 33 rfl trivial ?_
  refine V_ine D 45 rfl rfl h3 (by omega) (fun q0 => ?_) (fun q0 => ?_)
  · refine V_run D [] 47 rfl trivial ?_
    refine V_ine D 59 rfl rfl h3 (by omega) (fun q1 => ?_) (fun q1 => ?_)
    · obtain ⟨k, rfl⟩ : ∃ k : Nat, p = (k : Int) := ⟨p.toNat, by omega⟩
      obtain ⟨o1, o2, o3⟩ := c.2 k (by omega)
      obtain ⟨v1, v2, v3⟩ := hL k (by omega)
      rw [Nat.mul_zero, Nat.zero_add] at o2 o3
      have e : dByteOf x (k : Int) i = (0, bat (od x.2.1.1.2.2.2.2.1 k).2 i, x) := by unfold dByteOf; rw [if_neg (by omega), if_neg (by omega), if_pos (by omega), Int.toNat_natCast]
      refine V_run D [65] 65 rfl ⟨hS.a8 (by omega), hS.1, trivial⟩ ?_
      rw [hS.n8, n0 _ (by omega), Int.toNat_natCast, o2]
      refine fin _ v2 e (fun lv l0 l1 l2 i1 i2 => ?_)
      refine V_lv (lv' := xlv [some (.inr (.inr y)), some (.inl (k : Int)), some (.inl i)]) (fun j v hj => ?_) ?_
      · match j, hj with
        | 0, hj => exact l0.trans hj
        | 1, hj => exact l1.trans hj
        | 2, hj => exact l2.trans hj
      refine V_run D [] 80 rfl trivial ?_
      refine V_ine D 92 rfl rfl h3 (by omega) (fun _ => ?_) (fun q => absurd q q0)
      refine V_run D [] 94 rfl trivial ?_
      refine V_ine D 106 rfl rfl h3 (by omega) (fun _ => ?_) (fun q => absurd q q1)
      refine V_run D [] 118 rfl ⟨hS.a9 (by omega), hS.1, trivial⟩ ?_
      rw [hS.n9, n0 _ (by omega), show (400 * (k : Int) + i).toNat = 400 * k + i.toNat by omega, o3 i.toNat (by omega), e]
      exact V_iret D rfl rfl (MdP.ok h hok (by unfold bat; rw [if_pos (by omega)]; rfl))
    · subst q1
      have e : dByteOf x (-1) i = (0, bat x.2.1.1.2.2.2.1 i, x) := by unfold dByteOf; rw [if_pos rfl]
      refine V_run D [65] 65 rfl ⟨hS.a4 (by omega), hS.1, trivial⟩ ?_
      rw [hS.n4, n0 _ (by omega), show ((0 : Int)).toNat = 0 from rfl, b1]
      refine fin _ (by omega) e (fun lv l0 l1 l2 i1 i2 => ?_)
      refine V_lv (lv' := xlv [some (.inr (.inr y)), some (.inl (-1)), some (.inl i)]) (fun j v hj => ?_) ?_
      · match j, hj with
        | 0, hj => exact l0.trans hj
        | 1, hj => exact l1.trans hj
        | 2, hj => exact l2.trans hj
      refine V_run D [] 80 rfl trivial ?_
      refine V_ine D 92 rfl rfl h3 (by omega) (fun _ => ?_) (fun q => absurd q q0)
      refine V_run D [] 94 rfl trivial ?_
      refine V_ine D 106 rfl rfl h3 (by omega) (fun q => absurd rfl q) (fun _ => ?_)
      refine V_run D [] 118 rfl ⟨hS.a5 (by omega), hS.1, trivial⟩ ?_
      have r0 := b2 i.toNat (by omega)
      rw [Nat.mul_zero, Nat.zero_add] at r0
      rw [hS.n5, n0 _ (by omega), r0, e]
      exact V_iret D rfl rfl (MdP.ok h hok (by unfold bat; rw [if_pos (by omega)]; rfl))
  · subst q0
    have e : dByteOf x (-2) i = (0, bat x.2.1.1.2.2.2.2.2 i, x) := by unfold dByteOf; rw [if_neg (by decide), if_pos rfl]
    refine V_run D [65] 65 rfl ⟨hS.a10 (by omega), hS.1, trivial⟩ ?_
    rw [hS.n10, n0 _ (by omega), show ((0 : Int)).toNat = 0 from rfl, d1]
    refine fin _ (by omega) e (fun lv l0 l1 l2 i1 i2 => ?_)
    refine V_lv (lv' := xlv [some (.inr (.inr y)), some (.inl (-2)), some (.inl i)]) (fun j v hj => ?_) ?_
    · match j, hj with
      | 0, hj => exact l0.trans hj
      | 1, hj => exact l1.trans hj
      | 2, hj => exact l2.trans hj
    refine V_run D [] 80 rfl trivial ?_
    refine V_ine D 92 rfl rfl h3 (by omega) (fun q => absurd rfl q) (fun _ => ?_)
    refine V_run D [] 118 rfl ⟨hS.a11 (by omega), hS.1, trivial⟩ ?_
    have r0 := d2 i.toNat (by omega)
    rw [Nat.mul_zero, Nat.zero_add] at r0
    rw [hS.n11, n0 _ (by omega), r0, e]
    exact V_iret D rfl rfl (MdP.ok h hok (by unfold bat; rw [if_pos (by omega)]; rfl))
theorem r_optionAt {p w : Int} (h : MdAt T I N y x) (hok : MOk x.2.1.1) (h3 : xIn p) (h4 : xIn w) : Spec mX10_optionAt 1 [.inr (.inr y), .inl p, .inl w] z T I N 0 0 (MdP z T I N y rI (dOptionAt x p w)) := by
  have hS := h.1
  have hn := h.2.2.1.2.1
  have hL := OL_of hok.2.2.2.2.1 (Int.le_refl _)
  obtain ⟨⟨a1, a2, a3⟩, ⟨b1, b2⟩, c, d1, d2⟩ := h.2.2.1.1
  have n0 : ∀ a, a ≠ y → xup I y 0 0 a = I a := fun a ha => xup_ne ha
  refine Spec_of okX10_optionAt (by decide) (by decide) (Nat.le_of_ble_eq_true rfl) fun Γ E D => ?_
  have bad : ¬ ((0 ≤ p ∧ p < x.2.1.1.2.2.2.2.1.length) ∧ 0 ≤ w ∧ w ≤ 2) → V Γ E (xQ Γ E (MdP z T I N y rI (dOptionAt x p w)) 0 0) z T I N 0 0 24 (xent [.inr (.inr y), .inl p, .inl w] 0) [.inr (.inr y)] := fun hc => by
    have e : dOptionAt x p w = (1, 0, x) := by unfold dOptionAt; rw [if_pos hc]
    rw [e]
    refine V_run D [] 29 rfl trivial ?_
    refine V_ref1 D hS rfl lkX10_X10_refuses (by omega) 37 rfl rfl rfl ⟨Nat.le_refl _, Nat.le_refl _⟩ ?_
    refine V_run D [] 36 rfl trivial ?_
    exact V_iret D rfl rfl (MdP.no h hok 1 rfl)
  refine V_run D [] 2 rfl trivial ?_
  refine V_lt D 24 rfl rfl h3 (fun q => bad (by omega)) (fun c1 => ?_)
  refine V_run D [] 12 rfl ⟨hS.a6 (by omega), hS.1, trivial⟩ ?_
  rw [hS.n6, show ((0 : Int)).toNat = 0 from rfl, c.1]
  refine V_ige D 24 rfl rfl h3 (by omega) (fun q => bad (by omega)) (fun c2 => ?_)
  refine V_run D [] 16 rfl trivial ?_
  refine V_lt D 24 rfl rfl h4 (fun q => bad (by omega)) (fun c3 => ?_)
  refine V_run D [] 21 rfl trivial ?_
  refine V_ile D 28 rfl rfl h4 (by omega) (fun c4 => ?_) (fun q => bad (by omega))
  unfold dOptionAt
  rw [if_neg (by omega)]
  obtain ⟨k, rfl⟩ : ∃ k : Nat, p = (k : Int) := ⟨p.toNat, by omega⟩
  rw [Int.toNat_natCast]
  have hE : En (xup I y 0 0) y k (od x.2.1.1.2.2.2.2.1 k) := by
    have := c.2 k (by omega)
    rw [Nat.mul_zero, Nat.zero_add] at this
    exact ⟨by rw [n0 _ (by omega)]; exact this.1, by rw [n0 _ (by omega)]; exact this.2.1, by rw [n0 _ (by omega)]; exact this.2.2⟩
  obtain ⟨v1, v2, v3⟩ := hL k (by omega)
  refine V_run D [] 29 rfl trivial ?_
  refine V_ref0 D hS rfl lkX10_X10_refuses 37 rfl rfl rfl ⟨Nat.le_refl _, Nat.le_refl _⟩ ?_
  refine V_run D [] 38 rfl trivial ?_
  refine V_ne D 50 rfl rfl h4 (fun q0 => ?_) (fun q0 => ?_)
  · refine V_run D [] 52 rfl trivial ?_
    refine V_ine D 64 rfl rfl h4 (by omega) (fun q1 => ?_) (fun q1 => ?_)
    · refine V_run D [] 66 rfl trivial ?_
      refine V_askV (av := [.inl (k : Int)]) (st := []) D mwX10_whole rfl lkX10_X10_whole (r_whole hS (by omega) hE v2 v3) hS.1 rfl ⟨Nat.le_refl _, Nat.le_refl _⟩ ?_
      refine V_run D [] 70 rfl trivial ?_
      rw [if_neg q0, if_neg q1]
      refine V_bm ?_
      exact V_iret D rfl rfl (MdP.ok h hok rfl)
    · refine V_run D [] 70 rfl ⟨hS.a8 (by omega), hS.1, trivial⟩ ?_
      rw [hS.n8, Int.toNat_natCast, hE.2.1, if_neg q0, if_pos q1]
      exact V_iret D rfl rfl (MdP.ok h hok rfl)
  · refine V_run D [] 70 rfl ⟨hS.a7 (by omega), hS.1, trivial⟩ ?_
    rw [hS.n7, Int.toNat_natCast, hE.1, if_pos q0]
    exact V_iret D rfl rfl (MdP.ok h hok rfl)
theorem r_resource {p w : Int} (h : MdAt T I N y x) (hok : MOk x.2.1.1) (hr : x.2.2.1.1.length ≤ 16) (h3 : xIn p) (h4 : xIn w) : Spec mX10_resource 1 [.inr (.inr y), .inl p, .inl w] z T I N 0 0 (MdP z T I N y rI (dResource x p w)) := by
  have hS := h.1
  obtain ⟨e1, e2, e3⟩ := h.2.2.2.1
  have n0 : ∀ a, a ≠ y → xup I y 0 0 a = I a := fun a ha => xup_ne ha
  refine Spec_of okX10_resource (by decide) (by decide) (Nat.le_of_ble_eq_true rfl) fun Γ E D => ?_
  have bad : ¬ ((0 ≤ p ∧ p < x.2.2.1.1.length) ∧ 0 ≤ w ∧ w ≤ 2) → V Γ E (xQ Γ E (MdP z T I N y rI (dResource x p w)) 0 0) z T I N 0 0 22 (xent [.inr (.inr y), .inl p, .inl w] 0) [.inr (.inr y)] := fun hc => by
    have e : dResource x p w = (1, 0, x) := by unfold dResource; rw [if_pos hc]
    rw [e]
    refine V_run D [] 27 rfl trivial ?_
    refine V_ref1 D hS rfl lkX10_X10_refuses (by omega) 35 rfl rfl rfl ⟨Nat.le_refl _, Nat.le_refl _⟩ ?_
    refine V_run D [] 34 rfl trivial ?_
    exact V_iret D rfl rfl (MdP.no h hok 1 rfl)
  refine V_run D [] 2 rfl trivial ?_
  refine V_lt D 22 rfl rfl h3 (fun q => bad (by omega)) (fun c1 => ?_)
  refine V_run D [] 10 rfl ⟨hS.1, trivial⟩ ?_
  rw [e1]
  refine V_ige D 22 rfl rfl h3 (by omega) (fun q => bad (by omega)) (fun c2 => ?_)
  refine V_run D [] 14 rfl trivial ?_
  refine V_lt D 22 rfl rfl h4 (fun q => bad (by omega)) (fun c3 => ?_)
  refine V_run D [] 19 rfl trivial ?_
  refine V_ile D 26 rfl rfl h4 (by omega) (fun c4 => ?_) (fun q => bad (by omega))
  unfold dResource
  rw [if_neg (by omega)]
  obtain ⟨k, rfl⟩ : ∃ k : Nat, p = (k : Int) := ⟨p.toNat, by omega⟩
  rw [Int.toNat_natCast]
  obtain ⟨g1, g2, g3, g4, g5⟩ := e3 k (by omega)
  refine V_run D [] 27 rfl trivial ?_
  refine V_ref0 D hS rfl lkX10_X10_refuses 35 rfl rfl rfl ⟨Nat.le_refl _, Nat.le_refl _⟩ ?_
  refine V_run D [] 36 rfl trivial ?_
  refine V_ne D 48 rfl rfl h4 (fun q0 => ?_) (fun q0 => ?_)
  · refine V_run D [] 50 rfl trivial ?_
    refine V_ine D 62 rfl rfl h4 (by omega) (fun q1 => ?_) (fun q1 => ?_)
    · refine V_run D [] 68 rfl ⟨hS.a18 (by omega), hS.1, trivial⟩ ?_
      rw [hS.n18, n0 _ (by omega), Int.toNat_natCast, g5, if_neg q0, if_neg q1]
      exact V_iret D rfl rfl (MdP.ok h hok rfl)
    · refine V_run D [] 68 rfl ⟨hS.a16 (by omega), hS.1, trivial⟩ ?_
      rw [hS.n16, n0 _ (by omega), Int.toNat_natCast, g3, if_neg q0, if_pos q1]
      exact V_iret D rfl rfl (MdP.ok h hok rfl)
  · refine V_run D [] 68 rfl ⟨hS.a13 (by omega), hS.1, trivial⟩ ?_
    rw [hS.n13, n0 _ (by omega), Int.toNat_natCast, g1, if_pos q0]
    exact V_iret D rfl rfl (MdP.ok h hok rfl)
end XRef8
