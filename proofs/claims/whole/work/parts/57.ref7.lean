def tv (o : Option (Int × Nat)) : Int := match o with
  | none => -1
  | some d => d.1
section XRef7
variable {Γ : xG} {E : xE} {M : xM} {z : Nat} {T : xY} {I I' : xI} {N : xN} {y m lev mc ms ce sl pc idx i : Nat} {os : List Opt} {g : Msg} {x : Dk} {xs : List Int} {Q : State → Prop} {lv : xL} {q : Opt}
theorem r_whole (h : MdS T N y) (hi : i < 63) (hE : En I y i q) (hl : q.2.length ≤ 400) (hb : BsOk q.2) : Spec mX10_whole 0 [.inr (.inr y), .inl (i : Int)] z T I N 0 0 (xSame z T I N (some (.inr (.inl (wn q.2))))) := by
  obtain ⟨e1, e2, e3⟩ := hE
  refine Spec_of okX10_whole (by decide) (by decide) (Nat.le_of_ble_eq_true rfl) fun Γ E D => ?_
  refine V_run D [] 7 rfl ⟨h.a8 (by omega), h.1, trivial⟩ ?_
  rw [h.n8, Int.toNat_natCast, e2]
  refine V_ile D 14 rfl rfl (by omega) (by omega) (fun c => ?_) (fun c => ?_)
  · have ew : wn q.2 = wfold (q.2.take q.2.length) := by unfold wn; rw [if_neg (by omega), List.take_length]
    refine V_run D [19] 19 rfl trivial ?_
    refine V_loc [some (.inr (.inr y)), some (.inl (i : Int)), some (.inr (.inl (wfold (q.2.take 0)))), none, some (.inl ((0 : Nat) : Int))] rfl ?_
    refine xdn (P := fun k => V Γ E (xQ Γ E (xSame z T I N (some (.inr (.inl (wn q.2))))) 0 0) z T I N 0 0 19 (xlv [some (.inr (.inr y)), some (.inl (i : Int)), some (.inr (.inl (wfold (q.2.take k)))), none, some (.inl (k : Int))]) []) q.2.length ?_ (fun k hk ih => ?_)
    · refine V_run D [] 27 rfl ⟨h.a8 (by omega), h.1, trivial⟩ ?_
      rw [h.n8, Int.toNat_natCast, e2]
      refine V_ige D 57 rfl rfl (by omega) (by omega) (fun _ => ?_) (fun q => absurd q (by omega))
      refine V_run D [] 58 rfl trivial ?_
      exact V_lret D rfl rfl ⟨by rw [ew], rfl, rfl, rfl, rfl⟩
    · refine V_run D [] 27 rfl ⟨h.a8 (by omega), h.1, trivial⟩ ?_
      rw [h.n8, Int.toNat_natCast, e2]
      refine V_ige D 57 rfl rfl (by omega) (by omega) (fun q => absurd q (by omega)) (fun _ => ?_)
      have hv := hb _ (getD_mem hk)
      have en : (400 * (i : Int) + (k : Int)).toNat = 400 * i + k := by omega
      refine V_run D [19] 19 rfl ⟨by rw [h.n9, en, e3 k hk]; constructor <;> omega, h.a9 (by omega), h.1, trivial⟩ ?_
      rw [h.n9, en, e3 k hk]
      have e9 : 256 * wfold (q.2.take k) + q.2.getD k 0 = wfold (q.2.take (k + 1)) := by rw [take_snoc hk, wfold_snoc]
      rw [e9]
      exact V_loc [some (.inr (.inr y)), some (.inl (i : Int)), some (.inr (.inl (wfold (q.2.take (k + 1))))), none, some (.inl ((k + 1 : Nat) : Int))] rfl ih
  · refine V_run D [] 13 rfl trivial ?_
    exact V_lret D rfl rfl ⟨by unfold wn; rw [if_pos (by omega)], rfl, rfl, rfl, rfl⟩
theorem wf2 {v : List Int} (hl : v.length = 2) : wfold v = 256 * v.getD 0 0 + v.getD 1 0 := by
  match v, hl with
  | [a, b], _ => simp [wfold]
theorem r_isValue {t : Int} (h : MdS T N y) (hi : i < 63) (hE : En I y i q) (hl : q.2.length ≤ 400) (hb : BsOk q.2) (ht : 0 ≤ t ∧ t ≤ 65535) : Spec mX10_isValue 0 [.inr (.inr y), .inl (i : Int), .inl (t / 256), .inl (t % 256)] z T I N 0 0 (xSame z T I N (some (.inl (b01 (isT q.2 t))))) := by
  obtain ⟨e1, e2, e3⟩ := hE
  refine Spec_of okX10_isValue (by decide) (by decide) (Nat.le_of_ble_eq_true rfl) fun Γ E D => ?_
  have no : isT q.2 t = false → V Γ E (xQ Γ E (xSame z T I N (some (.inl (b01 (isT q.2 t))))) 0 0) z T I N 0 0 44 (xent [.inr (.inr y), .inl (i : Int), .inl (t / 256), .inl (t % 256)] 0) [] := fun hc => by
    refine V_run D [] 45 rfl trivial ?_
    exact V_zret D rfl rfl (Or.inl rfl) ⟨by rw [hc]; rfl, rfl, rfl, rfl, rfl⟩
  refine V_run D [] 7 rfl ⟨h.a8 (by omega), h.1, trivial⟩ ?_
  rw [h.n8, Int.toNat_natCast, e2]
  refine V_ine D 44 rfl rfl (by omega) (by omega) (fun c => no (by unfold isT; simp; omega)) (fun c => ?_)
  have hl2 : q.2.length = 2 := by omega
  have v0 := hb _ (getD_mem (j := 0) (by omega))
  have v1 := hb _ (getD_mem (j := 1) (by omega))
  have hw := wf2 hl2
  have r0 : I (y + 9) (400 * i) = q.2.getD 0 0 := e3 0 (by omega)
  have r1 := e3 1 (by omega)
  refine V_run D [] 21 rfl ⟨h.a9 (by omega), h.1, trivial⟩ ?_
  rw [h.n9, show (400 * (i : Int)).toNat = 400 * i by omega, r0]
  refine V_ine D 44 rfl rfl (by omega) (by omega) (fun c2 => no (by unfold isT; rw [hw]; simp only [decide_eq_false_iff_not]; omega)) (fun c2 => ?_)
  refine V_run D [] 37 rfl ⟨h.a9 (by omega), h.1, trivial⟩ ?_
  rw [h.n9, show (400 * (i : Int) + 1).toNat = 400 * i + 1 by omega, r1]
  refine V_ine D 44 rfl rfl (by omega) (by omega) (fun c3 => no (by unfold isT; rw [hw]; simp only [decide_eq_false_iff_not]; omega)) (fun c3 => ?_)
  refine V_run D [] 45 rfl trivial ?_
  have e9 : isT q.2 t = true := by unfold isT; rw [hw]; simp only [decide_eq_true_eq]; omega
  exact V_zret D rfl rfl (Or.inr rfl) ⟨by rw [e9]; rfl, rfl, rfl, rfl, rfl⟩
theorem r_told {v : Int} {p : Nat} (h : MdS T N y) (hH : HH I y xs) (hv : 0 ≤ v ∧ v ≤ 15) (hp : p ≤ 5000) : Spec mX10_told 0 [.inr (.inr y), .inl v, .inl (p : Int)] z T I N 0 0 (xSame z T I N (some (.inl (tv (tdv xs v p))))) := by
  obtain ⟨⟨h1, h2, h3⟩, h4⟩ := hH
  refine Spec_of okX10_told (by decide) (by decide) (Nat.le_of_ble_eq_true rfl) fun Γ E D => ?_
  refine V_run D [] 3 rfl trivial ?_
  refine V_ige D 8 rfl rfl (by omega) (by omega) (fun c1 => ?_) (fun c1 => ?_)
  · have no : tdv xs v p = none → V Γ E (xQ Γ E (xSame z T I N (some (.inl (tv (tdv xs v p))))) 0 0) z T I N 0 0 27 (xent [.inr (.inr y), .inl v, .inl (p : Int)] 0) [] := fun hc => by
      rw [hc]
      refine V_run D [] 28 rfl trivial ?_
      exact V_iret D rfl rfl ⟨rfl, rfl, rfl, rfl, rfl⟩
    refine V_run D [] 11 rfl trivial ?_
    refine V_ieq D 27 rfl rfl (by omega) (by omega) (fun c2 => no (by unfold tdv; rw [if_neg (by omega), if_pos (by omega)])) (fun c2 => ?_)
    refine V_run D [] 24 rfl ⟨h.1, trivial⟩ ?_
    rw [h1]
    refine V_ile D 29 rfl rfl (by omega) (by omega) (fun c3 => ?_) (fun c3 => no (by unfold tdv; rw [if_neg (by omega), if_pos (by omega)]))
    refine V_run D [] 32 rfl trivial ?_
    have r0 := h4 p (by omega)
    rw [Nat.zero_add] at r0
    refine V_ine D 47 rfl rfl (by omega) (by omega) (fun c4 => ?_) (fun c4 => ?_)
    · have e : tdv xs v p = some (269 + 256 * xs.getD p 0 + xs.getD (p + 1) 0, p + 2) := by unfold tdv; rw [if_neg (by omega), if_neg (by omega), if_neg (by omega)]
      have r1 := h4 (p + 1) (by omega)
      rw [Nat.zero_add] at r1
      rw [e]
      refine V_run D [] 70 rfl ⟨h.a12 (by omega), h.1, h.a12 (by omega), h.1, trivial⟩ ?_
      rw [h.n12, Int.toNat_natCast, show ((p : Int) + 1).toNat = p + 1 by omega, r0, r1]
      exact V_iret D rfl rfl ⟨rfl, rfl, rfl, rfl, rfl⟩
    · have e : tdv xs v p = some (13 + xs.getD p 0, p + 1) := by unfold tdv; rw [if_neg (by omega), if_neg (by omega), if_pos (by omega)]
      rw [e]
      refine V_run D [] 70 rfl ⟨h.a12 (by omega), h.1, trivial⟩ ?_
      rw [h.n12, Int.toNat_natCast, r0]
      exact V_iret D rfl rfl ⟨rfl, rfl, rfl, rfl, rfl⟩
  · have e : tdv xs v p = some (v, p) := by unfold tdv; rw [if_pos (by omega)]
    rw [e]
    refine V_run D [] 7 rfl trivial ?_
    exact V_iret D rfl rfl ⟨rfl, rfl, rfl, rfl, rfl⟩
/-- an option goes from one place to another -/
theorem r_copies {t : Nat} (h : MdS T N y) (hi : i < 63) (ht : t < 63) (hne : i ≠ t) (hE : En I y i q) (hl : q.2.length ≤ 400) : Spec mX10_copies 0 [.inr (.inr y), .inl (i : Int), .inl (t : Int)] z T I N 0 0 (xMd z T N fun r I' => r = none ∧ Fr (fun a k => ((a = y + 7 ∨ a = y + 8) ∧ k = t) ∨ (a = y + 9 ∧ 400 * t ≤ k ∧ k < 400 * t + 400)) I I' ∧ En I' y t q) := by
  obtain ⟨e1, e2, e3⟩ := hE
  refine Spec_of okX10_copies (by decide) (by decide) (Nat.le_of_ble_eq_true rfl) fun Γ E D => ?_
  refine V_run D [26] 26 rfl ⟨h.a8 (by omega), h.a8 (by omega), h.1, h.1, h.a7 (by omega), h.a7 (by omega), h.1, h.1, trivial⟩ ?_
  rw [h.n7, h.n8, Int.toNat_natCast, Int.toNat_natCast, xup_ne (show y + 8 ≠ y + 7 by omega), e1, e2]
  generalize hJ : xup (xup I (y + 7) t q.1) (y + 8) t (q.2.length : Int) = J
  have j8 : J (y + 8) i = (q.2.length : Int) := by rw [← hJ, ← e2]; (simp only [xup_ap, true_and, and_true, if_true, if_false]; repeat (first | rw [if_neg (by omega)] | rw [if_pos (by omega)]))
  rw [← cpy_0 J (y + 9) (400 * t) (fun k => J (y + 9) (400 * i + k))]
  refine V_loc [some (.inr (.inr y)), some (.inl (i : Int)), some (.inl (t : Int)), some (.inl ((0 : Nat) : Int))] rfl ?_
  refine xdn (P := fun k => V Γ E (xQ Γ E (xMd z T N fun r I' => r = none ∧ Fr (fun a k => ((a = y + 7 ∨ a = y + 8) ∧ k = t) ∨ (a = y + 9 ∧ 400 * t ≤ k ∧ k < 400 * t + 400)) I I' ∧ En I' y t q) 0 0) z T (cpy J (y + 9) (400 * t) (fun k => J (y + 9) (400 * i + k)) k) N 0 0 26 (xlv [some (.inr (.inr y)), some (.inl (i : Int)), some (.inl (t : Int)), some (.inl (k : Int))]) []) q.2.length ?_ (fun k hk ih => ?_)
  · refine V_run D [] 33 rfl ⟨h.a8 (by omega), h.1, trivial⟩ ?_
    rw [h.n8, Int.toNat_natCast, cpy_out (by omega), j8]
    refine V_ige D 66 rfl rfl (by omega) (by omega) (fun _ => ?_) (fun q => absurd q (by omega))
    refine V_vret D rfl rfl ⟨rfl, rfl, rfl, rfl, fun a k q => ?_, ?_, ?_, fun j hj => ?_⟩
    · rw [cpy_out (by omega), ← hJ]; (simp only [xup_ap, true_and, and_true, if_true, if_false]; repeat (first | rw [if_neg (by omega)] | rw [if_pos (by omega)]))
    · rw [cpy_out (by omega), ← hJ]; (simp only [xup_ap, true_and, and_true, if_true, if_false]; repeat (first | rw [if_neg (by omega)] | rw [if_pos (by omega)]))
    · rw [cpy_out (by omega), ← hJ]; (simp only [xup_ap, true_and, and_true, if_true, if_false]; repeat (first | rw [if_neg (by omega)] | rw [if_pos (by omega)]))
    · rw [cpy_in hj, ← e3 j hj, ← hJ]; (simp only [xup_ap, true_and, and_true, if_true, if_false]; repeat (first | rw [if_neg (by omega)] | rw [if_pos (by omega)]))
  · refine V_run D [] 33 rfl ⟨h.a8 (by omega), h.1, trivial⟩ ?_
    rw [h.n8, Int.toNat_natCast, cpy_out (by omega), j8]
    refine V_ige D 66 rfl rfl (by omega) (by omega) (fun q => absurd q (by omega)) (fun _ => ?_)
    refine V_run D [26] 26 rfl ⟨h.a9 (by omega), h.a9 (by omega), h.1, h.1, trivial⟩ ?_
    rw [h.n9, show (400 * (t : Int) + (k : Int)).toNat = 400 * t + k by omega, show (400 * (i : Int) + (k : Int)).toNat = 400 * i + k by omega, cpy_out (by omega)]
    have st := cpy_step J (y + 9) (400 * t) (fun k => J (y + 9) (400 * i + k)) k
    rw [st]
    exact V_loc [some (.inr (.inr y)), some (.inl (i : Int)), some (.inl (t : Int)), some (.inl ((k + 1 : Nat) : Int))] rfl ih
theorem r_hand {k : Int} (h : MdAt T I N y x) (hok : MOk x.2.1.1) (h4 : xIn k) : Spec mX10_hand 0 [.inr (.inr y), .inl k] z T I N 0 0 (MdP z T I N y rI (0, bat x.1 k, x)) := by
  have hS := h.1
  obtain ⟨⟨e1, e2, e3⟩, e4⟩ := h.2.1
  have hI : xup I y 0 0 y 13 = (x.1.length : Int) := by rw [xup_ap, if_neg (by omega)]; exact e1
  refine Spec_of okX10_hand (by decide) (by decide) (Nat.le_of_ble_eq_true rfl) fun Γ E D => ?_
  have no : bat x.1 k = -1 → V Γ E (xQ Γ E (MdP z T I N y rI (0, bat x.1 k, x)) 0 0) z T (xup I y 0 0) N 0 0 26 (xent [.inr (.inr y), .inl k] 0) [] := fun hc => by
    refine V_run D [] 27 rfl trivial ?_
    exact V_iret D rfl rfl ⟨rfl, rfl, rfl, by rw [hc]; rfl, xup_0, fun a ha => xup_ne (by omega), h.code hok _⟩
  refine V_run D [] 6 rfl ⟨hS.1, trivial⟩ ?_
  refine V_lt D 26 rfl rfl h4 (fun c => no (by unfold bat; rw [if_neg (by omega)])) (fun c => ?_)
  refine V_run D [] 14 rfl ⟨hS.1, trivial⟩ ?_
  rw [hI]
  refine V_ige D 26 rfl rfl h4 (by omega) (fun c2 => no (by unfold bat; rw [if_neg (by omega)])) (fun c2 => ?_)
  refine V_run D [] 27 rfl ⟨hS.a12 (by omega), hS.1, trivial⟩ ?_
  have r0 := e4 k.toNat (by omega)
  rw [Nat.zero_add] at r0
  rw [hS.n12, xup_ap, if_neg (by omega), r0]
  exact V_iret D rfl rfl ⟨rfl, rfl, rfl, by unfold bat; rw [if_pos (by omega)]; rfl, xup_0, fun a ha => xup_ne (by omega), h.code hok _⟩
theorem MdP.ok (h : MdAt T I N y x) (hok : MOk x.2.1.1) {v : Int → Option xV} {r : Option xV} {a : Int} (hr : r = v a) : MdP z T I N y v (0, a, x) r z T (xup I y 0 0) N := ⟨rfl, rfl, rfl, hr, xup_0, fun a ha => xup_ne (by omega), h.code hok _⟩
theorem r_about {k : Int} (h : MdAt T I N y x) (hok : MOk x.2.1.1) (h4 : xIn k) : Spec mX10_about 1 [.inr (.inr y), .inl k] z T I N 0 0 (MdP z T I N y rI (dAbout x k)) := by
  have hS := h.1
  obtain ⟨⟨a1, a2, a3⟩, ⟨b1, b2⟩, c, d1, d2⟩ := h.2.2.1.1
  have n0 : ∀ a, a ≠ y → xup I y 0 0 a = I a := fun a ha => xup_ne ha
  refine Spec_of okX10_about (by decide) (by decide) (Nat.le_of_ble_eq_true rfl) fun Γ E D => ?_
  have bad : ¬ (0 ≤ k ∧ k ≤ 5) → V Γ E (xQ Γ E (MdP z T I N y rI (dAbout x k)) 0 0) z T I N 0 0 10 (xent [.inr (.inr y), .inl k] 0) [.inr (.inr y)] := fun hc => by
    have e : dAbout x k = (1, 0, x) := by unfold dAbout; rw [if_pos hc]
    rw [e]
    refine V_run D [] 15 rfl trivial ?_
    refine V_ref1 D hS rfl lkX10_X10_refuses (by omega) 23 rfl rfl rfl ⟨Nat.le_refl _, Nat.le_refl _⟩ ?_
    refine V_run D [] 22 rfl trivial ?_
    exact V_iret D rfl rfl (MdP.no h hok 1 rfl)
  refine V_run D [] 2 rfl trivial ?_
  refine V_lt D 10 rfl rfl h4 (fun q => bad (by omega)) (fun c1 => ?_)
  refine V_run D [] 7 rfl trivial ?_
  refine V_ile D 14 rfl rfl h4 (by omega) (fun c2 => ?_) (fun q => bad (by omega))
  unfold dAbout
  rw [if_neg (by omega)]
  refine V_run D [] 15 rfl trivial ?_
  refine V_ref0 D hS rfl lkX10_X10_refuses 23 rfl rfl rfl ⟨Nat.le_refl _, Nat.le_refl _⟩ ?_
  refine V_run D [] 24 rfl trivial ?_
  refine V_ne D 36 rfl rfl h4 (fun q0 => ?_) (fun q0 => ?_)
  · refine V_run D [] 38 rfl trivial ?_
    refine V_ine D 50 rfl rfl h4 (by omega) (fun q1 => ?_) (fun q1 => ?_)
    · refine V_run D [] 52 rfl trivial ?_
      refine V_ine D 64 rfl rfl h4 (by omega) (fun q2 => ?_) (fun q2 => ?_)
      · refine V_run D [] 66 rfl trivial ?_
        refine V_ine D 78 rfl rfl h4 (by omega) (fun q3 => ?_) (fun q3 => ?_)
        · refine V_run D [] 80 rfl trivial ?_
          refine V_ine D 92 rfl rfl h4 (by omega) (fun q5 => ?_) (fun q5 => ?_)
          · refine V_run D [] 98 rfl ⟨hS.a10 (by omega), hS.1, trivial⟩ ?_
            rw [hS.n10, n0 _ (by omega), show ((0 : Int)).toNat = 0 from rfl, d1, if_neg q0, if_neg q1, if_neg q2, if_neg q3, if_neg q5]
            exact V_iret D rfl rfl (MdP.ok h hok rfl)
          · refine V_run D [] 98 rfl ⟨hS.a6 (by omega), hS.1, trivial⟩ ?_
            rw [hS.n6, n0 _ (by omega), show ((0 : Int)).toNat = 0 from rfl, c.1, if_neg q0, if_neg q1, if_neg q2, if_neg q3, if_pos q5]
            exact V_iret D rfl rfl (MdP.ok h hok rfl)
        · refine V_run D [] 98 rfl ⟨hS.a4 (by omega), hS.1, trivial⟩ ?_
          rw [hS.n4, n0 _ (by omega), show ((0 : Int)).toNat = 0 from rfl, b1, if_neg q0, if_neg q1, if_neg q2, if_pos q3]
          exact V_iret D rfl rfl (MdP.ok h hok rfl)
      · refine V_run D [] 98 rfl ⟨hS.a3 (by omega), hS.1, trivial⟩ ?_
        rw [hS.n3, n0 _ (by omega), show ((0 : Int)).toNat = 0 from rfl, a3, if_neg q0, if_neg q1, if_pos q2]
        exact V_iret D rfl rfl (MdP.ok h hok rfl)
    · refine V_run D [] 98 rfl ⟨hS.a2 (by omega), hS.1, trivial⟩ ?_
      rw [hS.n2, n0 _ (by omega), show ((0 : Int)).toNat = 0 from rfl, a2, if_neg q0, if_pos q1]
      exact V_iret D rfl rfl (MdP.ok h hok rfl)
  · refine V_run D [] 98 rfl ⟨hS.a1 (by omega), hS.1, trivial⟩ ?_
    rw [hS.n1, n0 _ (by omega), show ((0 : Int)).toNat = 0 from rfl, a1, if_pos q0]
    exact V_iret D rfl rfl (MdP.ok h hok rfl)
theorem r_total {k : Int} (h : MdAt T I N y x) (hok : MOk x.2.1.1) (h4 : xIn k) : Spec mX10_total 1 [.inr (.inr y), .inl k] z T I N 0 0 (MdP z T I N y rI (dTotal x k)) := by
  have hS := h.1
  obtain ⟨_, ⟨⟨e1, _⟩, _⟩, _, ⟨e2, e3, _⟩, ⟨e4, e5, e6⟩, _⟩ := _root_.id h
  have n0 : ∀ j, j ≠ 0 → xup I y 0 0 y j = I y j := fun j ha => xup_j ha
  refine Spec_of okX10_total (by decide) (by decide) (Nat.le_of_ble_eq_true rfl) fun Γ E D => ?_
  have bad : ¬ (0 ≤ k ∧ k ≤ 5) → V Γ E (xQ Γ E (MdP z T I N y rI (dTotal x k)) 0 0) z T I N 0 0 10 (xent [.inr (.inr y), .inl k] 0) [.inr (.inr y)] := fun hc => by
    have e : dTotal x k = (1, 0, x) := by unfold dTotal; rw [if_pos hc]
    rw [e]
    refine V_run D [] 15 rfl trivial ?_
    refine V_ref1 D hS rfl lkX10_X10_refuses (by omega) 23 rfl rfl rfl ⟨Nat.le_refl _, Nat.le_refl _⟩ ?_
    refine V_run D [] 22 rfl trivial ?_
    exact V_iret D rfl rfl (MdP.no h hok 1 rfl)
  refine V_run D [] 2 rfl trivial ?_
  refine V_lt D 10 rfl rfl h4 (fun q => bad (by omega)) (fun c1 => ?_)
  refine V_run D [] 7 rfl trivial ?_
  refine V_ile D 14 rfl rfl h4 (by omega) (fun c2 => ?_) (fun q => bad (by omega))
  unfold dTotal
  rw [if_neg (by omega)]
  refine V_run D [] 15 rfl trivial ?_
  refine V_ref0 D hS rfl lkX10_X10_refuses 23 rfl rfl rfl ⟨Nat.le_refl _, Nat.le_refl _⟩ ?_
  refine V_run D [] 24 rfl trivial ?_
  refine V_ne D 34 rfl rfl h4 (fun q0 => ?_) (fun q0 => ?_)
  · refine V_run D [] 36 rfl trivial ?_
    refine V_ine D 46 rfl rfl h4 (by omega) (fun q1 => ?_) (fun q1 => ?_)
    · refine V_run D [] 48 rfl trivial ?_
      refine V_ine D 58 rfl rfl h4 (by omega) (fun q2 => ?_) (fun q2 => ?_)
      · refine V_run D [] 60 rfl trivial ?_
        refine V_ine D 70 rfl rfl h4 (by omega) (fun q3 => ?_) (fun q3 => ?_)
        · refine V_run D [] 72 rfl trivial ?_
          refine V_ine D 82 rfl rfl h4 (by omega) (fun q5 => ?_) (fun q5 => ?_)
          · refine V_run D [] 86 rfl ⟨hS.1, trivial⟩ ?_
            rw [n0 _ (by decide), e6, if_neg q0, if_neg q1, if_neg q2, if_neg q3, if_neg q5]
            exact V_iret D rfl rfl (MdP.ok h hok rfl)
          · refine V_run D [] 86 rfl ⟨hS.1, trivial⟩ ?_
            rw [n0 _ (by decide), e5, if_neg q0, if_neg q1, if_neg q2, if_neg q3, if_pos q5]
            exact V_iret D rfl rfl (MdP.ok h hok rfl)
        · refine V_run D [] 86 rfl ⟨hS.1, trivial⟩ ?_
          rw [n0 _ (by decide), e4, if_neg q0, if_neg q1, if_neg q2, if_pos q3]
          exact V_iret D rfl rfl (MdP.ok h hok rfl)
      · refine V_run D [] 86 rfl ⟨hS.1, trivial⟩ ?_
        rw [n0 _ (by decide), e3, if_neg q0, if_neg q1, if_pos q2]
        exact V_iret D rfl rfl (MdP.ok h hok rfl)
    · refine V_run D [] 86 rfl ⟨hS.1, trivial⟩ ?_
      rw [n0 _ (by decide), e2, if_neg q0, if_pos q1]
      exact V_iret D rfl rfl (MdP.ok h hok rfl)
  · refine V_run D [] 86 rfl ⟨hS.1, trivial⟩ ?_
    rw [n0 _ (by decide), e1, if_pos q0]
    exact V_iret D rfl rfl (MdP.ok h hok rfl)
end XRef7
