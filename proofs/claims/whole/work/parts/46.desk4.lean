def dAbout (x : Dk) (w : Int) : Nat × Int × Dk := if ¬ (0 ≤ w ∧ w ≤ 5) then (1, 0, x) else (0, (if w = 0 then x.2.1.1.1 else if w = 1 then x.2.1.1.2.1 else if w = 2 then x.2.1.1.2.2.1 else if w = 3 then (x.2.1.1.2.2.2.1.length : Int) else if w = 4 then (x.2.1.1.2.2.2.2.1.length : Int) else (x.2.1.1.2.2.2.2.2.length : Int)), x)
def dByteOf (x : Dk) (p i : Int) : Nat × Int × Dk := if p = -1 then (0, bat x.2.1.1.2.2.2.1 i, x) else if p = -2 then (0, bat x.2.1.1.2.2.2.2.2 i, x) else if 0 ≤ p ∧ p < x.2.1.1.2.2.2.2.1.length then (0, bat (od x.2.1.1.2.2.2.2.1 p.toNat).2 i, x) else (1, 0, x)
def bm32 (x : Int) : Int := x.bmod 4294967296
def dOptionAt (x : Dk) (k w : Int) : Nat × Int × Dk := if ¬ ((0 ≤ k ∧ k < x.2.1.1.2.2.2.2.1.length) ∧ 0 ≤ w ∧ w ≤ 2) then (1, 0, x) else (0, (if w = 0 then (od x.2.1.1.2.2.2.2.1 k.toNat).1 else if w = 1 then ((od x.2.1.1.2.2.2.2.1 k.toNat).2.length : Int) else bm32 (wn (od x.2.1.1.2.2.2.2.1 k.toNat).2)), x)
def dTotal (x : Dk) (w : Int) : Nat × Int × Dk := if ¬ (0 ≤ w ∧ w ≤ 5) then (1, 0, x) else (0, (if w = 0 then (x.1.length : Int) else if w = 1 then (x.2.2.1.1.length : Int) else if w = 2 then x.2.2.1.2 else if w = 3 then x.2.2.2.1.1 else if w = 4 then x.2.2.2.1.2.1 else x.2.2.2.1.2.2), x)
def dResource (x : Dk) (k w : Int) : Nat × Int × Dk := if ¬ ((0 ≤ k ∧ k < x.2.2.1.1.length) ∧ 0 ≤ w ∧ w ≤ 2) then (1, 0, x) else (0, (if w = 0 then ((rsd x.2.2.1.1 k.toNat).1.length : Int) else if w = 1 then ((rsd x.2.2.1.1 k.toNat).2.1.length : Int) else (rsd x.2.2.1.1 k.toNat).2.2), x)
section XDk4
variable {Γ : xG} {E : xE} {M : xM} {Q : State → Prop} {z : Nat} {T : xY} {I : xI} {N : xN} {d b room lev mc ms pc ce sl : Nat} {x : Dk} {xs : List Int} {lv : xL} {st : List xV} {post : xPo} {xp : xXp}
theorem V_bm {y : Int} (h : V Γ E Q z T I N ce sl pc lv (.inl (bm32 y) :: st)) : V Γ E Q z T I N ce sl pc lv (.inl y :: st) := by
  have e : xv (.inl (bm32 y)) = xv (.inl y) := by
    show Value.int (Int32.ofInt (bm32 y)) = Value.int (Int32.ofInt y)
    congr 1
    rw [← Int32.toInt_inj, x32b, x32b]
    unfold bm32
    exact Int.bmod_bmod
  intro H locs ls hR hS hl
  have h1 := h H locs ls hR hS hl
  rw [List.map_cons, e, ← List.map_cons] at h1
  exact h1
theorem s_dAbout {w : Int} (h : DkAt T I N d x) (h4 : xIn w) : XSpec mX9_about 7 [.inr (.inr d), .inl w] z T I N 1 6 (OpP z T I N d rI (dAbout x w)) (OpX z T I N d cs2 (dAbout x w)) := by
  obtain ⟨⟨a1, a2, a3, a4, a5⟩, b1, s1, m, ms, ⟨n1, n2, n3⟩, m1, g', lat', m2⟩ := _root_.id h
  have t0 : T (N d 3) = some (.inr 1) := by rw [n1]; exact m1.1.1
  refine XSpec_of okX9_about (by decide) (by decide) (Nat.le_of_ble_eq_true rfl) fun Γ E D => ?_
  refine V_run D.1 [] 1 rfl trivial ?_
  by_cases hw : 0 ≤ w ∧ w ≤ 5
  · have e : dAbout x w = (0, (if w = 0 then x.2.1.1.1 else if w = 1 then x.2.1.1.2.1 else if w = 2 then x.2.1.1.2.2.1 else if w = 3 then (x.2.1.1.2.2.2.1.length : Int) else if w = 4 then (x.2.1.1.2.2.2.2.1.length : Int) else (x.2.1.1.2.2.2.2.2.length : Int)), x) := by unfold dAbout; rw [if_neg (fun h => h hw)]
    rw [e]
    rcases (by omega : w = 0 ∨ w = 1 ∨ w = 2 ∨ w = 3 ∨ w = 4 ∨ w = 5) with c | c | c | c | c | c <;> subst c
    · refine V_tswIn D.1 40 rfl h4 ⟨by decide, by decide⟩ rfl rfl ?_
      refine V_run D.1 [] 47 rfl ⟨t0, a1, trivial⟩ ?_
      rw [n1, m1.2.1.1]
      exact V_xiret D rfl rfl ⟨rfl, rfl, rfl, rfl, RCh.rf, h⟩
    · refine V_tswIn D.1 48 rfl h4 ⟨by decide, by decide⟩ rfl rfl ?_
      refine V_run D.1 [] 55 rfl ⟨t0, a1, trivial⟩ ?_
      rw [n1, m1.2.1.2.1]
      exact V_xiret D rfl rfl ⟨rfl, rfl, rfl, rfl, RCh.rf, h⟩
    · refine V_tswIn D.1 56 rfl h4 ⟨by decide, by decide⟩ rfl rfl ?_
      refine V_run D.1 [] 63 rfl ⟨t0, a1, trivial⟩ ?_
      rw [n1, m1.2.1.2.2]
      exact V_xiret D rfl rfl ⟨rfl, rfl, rfl, rfl, RCh.rf, h⟩
    · refine V_tswIn D.1 64 rfl h4 ⟨by decide, by decide⟩ rfl rfl ?_
      refine V_run D.1 [] 74 rfl ⟨by rw [n1, m1.1.2.1]; exact m1.2.2.1.1, t0, a1, trivial⟩ ?_
      rw [n1, m1.1.2.1, m1.2.2.1.2.2.2.1]
      exact V_xiret D rfl rfl ⟨rfl, rfl, rfl, rfl, RCh.rf, h⟩
    · refine V_tswIn D.1 75 rfl h4 ⟨by decide, by decide⟩ rfl rfl ?_
      refine V_run D.1 [] 82 rfl ⟨t0, a1, trivial⟩ ?_
      rw [n1, m1.1.2.2.2.2.2.2.1]
      exact V_xiret D rfl rfl ⟨rfl, rfl, rfl, rfl, RCh.rf, h⟩
    · refine V_tswIn D.1 83 rfl h4 ⟨by decide, by decide⟩ rfl rfl ?_
      refine V_run D.1 [] 93 rfl ⟨by rw [n1, m1.1.2.2.1]; exact m1.2.2.2.1.1, t0, a1, trivial⟩ ?_
      rw [n1, m1.1.2.2.1, m1.2.2.2.1.2.2.2.1]
      exact V_xiret D rfl rfl ⟨rfl, rfl, rfl, rfl, RCh.rf, h⟩
  · have e : dAbout x w = (1, 0, x) := by unfold dAbout; rw [if_pos hw]
    rw [e]
    refine V_tswOut D.1 94 rfl h4 (by omega) rfl ?_
    exact V_throw D (47, 51, "java/lang/IllegalArgumentException") (by decide) (143, "what is not 0 .. 5") (by decide) rfl rfl rfl rfl rfl rfl rfl ⟨by decide, by decide⟩ (fun z' hz => ⟨Nat.succ_ne_zero _, rfl, hz, rfl, RCh.rf, h⟩)
theorem s_dByteOf {p i : Int} (h : DkAt T I N d x) (h3 : xIn p) (h4 : xIn i) : XSpec mX9_byteOf 7 [.inr (.inr d), .inl p, .inl i] z T I N 1 6 (OpP z T I N d rI (dByteOf x p i)) (OpX z T I N d cs2 (dByteOf x p i)) := by
  obtain ⟨⟨a1, a2, a3, a4, a5⟩, b1, s1, m, ms, ⟨n1, n2, n3⟩, m1, g', lat', m2⟩ := _root_.id h
  have t0 : T (N d 3) = some (.inr 1) := by rw [n1]; exact m1.1.1
  refine XSpec_of okX9_byteOf (by decide) (by decide) (Nat.le_of_ble_eq_true rfl) fun Γ E D => ?_
  unfold dByteOf
  refine V_run D.1 [] 2 rfl trivial ?_
  refine V_ine D.1 17 rfl rfl h3 (by omega) (fun q1 => ?_) (fun q1 => ?_)
  · rw [if_neg q1]
    refine V_run D.1 [] 20 rfl trivial ?_
    refine V_ine D.1 35 rfl rfl h3 (by omega) (fun q2 => ?_) (fun q2 => ?_)
    · rw [if_neg q2]
      refine V_run D.1 [] 40 rfl ⟨a1, trivial⟩ ?_
      rw [n1]
      refine V_askV (av := [.inl p]) (st := []) D.1 mwX1_at rfl lkX9_X1_at (s_mat m1 h3) m1.1.1 rfl ⟨Nat.zero_le _, Nat.zero_le _⟩ ?_
      unfold oref
      by_cases hp : 0 ≤ p ∧ p < x.2.1.1.2.2.2.2.1.length
      · rw [if_pos hp, if_pos hp]
        obtain ⟨⟨p1, p2, p3, p4⟩, o2, o3⟩ := m1.opt (j := p.toNat) (by omega)
        refine V_run D.1 [] 45 rfl trivial ?_
        refine V_nonnull D.1 58 rfl rfl (fun q5 => ?_) (fun q5 => absurd q5 (by omega))
        refine V_run D.1 [] 63 rfl ⟨p1, trivial⟩ ?_
        rw [p2]
        refine V_askV (av := [.inl i]) (st := []) D.1 mwX0_at rfl lkX9_X0_at (s_at p4 h4) p4.1 rfl ⟨Nat.zero_le _, Nat.zero_le _⟩ ?_
        exact V_xiret D rfl rfl ⟨rfl, rfl, rfl, rfl, RCh.rf, h⟩
      · rw [if_neg hp, if_neg hp]
        refine V_run D.1 [] 45 rfl trivial ?_
        refine V_nonnull D.1 58 rfl rfl (fun q5 => absurd q5 (by omega)) (fun q5 => ?_)
        exact V_throw D (47, 51, "java/lang/IllegalArgumentException") (by decide) (151, "there is no such part") (by decide) rfl rfl rfl rfl rfl rfl rfl ⟨by decide, by decide⟩ (fun z' hz => ⟨Nat.succ_ne_zero _, rfl, hz, rfl, RCh.rf, h⟩)
    · rw [if_pos q2]
      have p4 := m1.2.2.2.1
      refine V_run D.1 [] 31 rfl ⟨t0, a1, trivial⟩ ?_
      rw [n1, m1.1.2.2.1]
      refine V_askV (av := [.inl i]) (st := []) D.1 mwX0_at rfl lkX9_X0_at (s_at p4 h4) p4.1 rfl ⟨Nat.zero_le _, Nat.zero_le _⟩ ?_
      exact V_xiret D rfl rfl ⟨rfl, rfl, rfl, rfl, RCh.rf, h⟩
  · rw [if_pos q1]
    have p4 := m1.2.2.1
    refine V_run D.1 [] 13 rfl ⟨t0, a1, trivial⟩ ?_
    rw [n1, m1.1.2.1]
    refine V_askV (av := [.inl i]) (st := []) D.1 mwX0_at rfl lkX9_X0_at (s_at p4 h4) p4.1 rfl ⟨Nat.zero_le _, Nat.zero_le _⟩ ?_
    exact V_xiret D rfl rfl ⟨rfl, rfl, rfl, rfl, RCh.rf, h⟩
theorem s_dOptionAt {k w : Int} (h : DkAt T I N d x) (h3 : xIn k) (h4 : xIn w) : XSpec mX9_optionAt 7 [.inr (.inr d), .inl k, .inl w] z T I N 1 6 (OpP z T I N d rI (dOptionAt x k w)) (OpX z T I N d cs2 (dOptionAt x k w)) := by
  obtain ⟨⟨a1, a2, a3, a4, a5⟩, b1, s1, m, ms, ⟨n1, n2, n3⟩, m1, g', lat', m2⟩ := _root_.id h
  refine XSpec_of okX9_optionAt (by decide) (by decide) (Nat.le_of_ble_eq_true rfl) fun Γ E D => ?_
  have bad : ¬ ((0 ≤ k ∧ k < x.2.1.1.2.2.2.2.1.length) ∧ 0 ≤ w ∧ w ≤ 2) → ∀ lv, V Γ E (xQX Γ E (OpP z T I N d rI (dOptionAt x k w)) (OpX z T I N d cs2 (dOptionAt x k w)) 1 6) z T I N 0 0 21 lv [] := fun hc lv => by
    have e : dOptionAt x k w = (1, 0, x) := by unfold dOptionAt; rw [if_pos hc]
    rw [e]
    exact V_throw D (47, 51, "java/lang/IllegalArgumentException") (by decide) (153, "there is no such option, or what is not 0 .. 2") (by decide) rfl rfl rfl rfl rfl rfl rfl ⟨by decide, by decide⟩ (fun z' hz => ⟨Nat.succ_ne_zero _, rfl, hz, rfl, RCh.rf, h⟩)
  refine V_run D.1 [] 5 rfl ⟨a1, trivial⟩ ?_
  rw [n1]
  refine V_askV (av := [.inl k]) (st := []) D.1 mwX1_at rfl lkX9_X1_at (s_mat m1 h3) m1.1.1 rfl ⟨Nat.zero_le _, Nat.zero_le _⟩ ?_
  unfold oref
  by_cases hp : 0 ≤ k ∧ k < x.2.1.1.2.2.2.2.1.length
  · rw [if_pos hp]
    obtain ⟨⟨p1, p2, p3, p4⟩, o2, o3⟩ := m1.opt (j := k.toNat) (by omega)
    refine V_run D.1 [] 10 rfl trivial ?_
    refine V_null D.1 21 rfl rfl (fun q5 => absurd q5 (by omega)) (fun q5 => ?_)
    refine V_run D.1 [] 15 rfl trivial ?_
    refine V_askS (av := [.inl w, .inl 2]) (st := []) D.1 mwX9_within rfl lkX9_X9_within (s_within h4 (by omega)) rfl ⟨Nat.zero_le _, Nat.zero_le _⟩ ?_
    refine V_ne D.1 31 rfl rfl (b01_in _) (fun q1 => ?_) (fun q1 => ?_)
    · rw [b01_dec1] at q1
      have e : dOptionAt x k w = (0, (if w = 0 then (od x.2.1.1.2.2.2.2.1 k.toNat).1 else if w = 1 then ((od x.2.1.1.2.2.2.2.1 k.toNat).2.length : Int) else bm32 (wn (od x.2.1.1.2.2.2.2.1 k.toNat).2)), x) := by unfold dOptionAt; rw [if_neg (fun h => h ⟨hp, q1⟩)]
      rw [e]
      refine V_run D.1 [] 32 rfl trivial ?_
      refine V_ne D.1 40 rfl rfl h4 (fun q2 => ?_) (fun q2 => ?_)
      · rw [if_neg q2]
        refine V_run D.1 [] 42 rfl trivial ?_
        refine V_ine D.1 55 rfl rfl h4 (by omega) (fun q3 => ?_) (fun q3 => ?_)
        · rw [if_neg q3]
          refine V_run D.1 [] 59 rfl ⟨p1, trivial⟩ ?_
          rw [p2]
          refine V_askV (av := []) (st := []) D.1 mwX0_wholeNumber rfl lkX9_X0_wholeNumber (s_whole p4) p4.1 rfl ⟨Nat.zero_le _, Nat.zero_le _⟩ ?_
          refine V_run D.1 [] 63 rfl trivial ?_
          refine V_bm ?_
          exact V_xiret D rfl rfl ⟨rfl, rfl, rfl, rfl, RCh.rf, h⟩
        · rw [if_pos q3]
          refine V_run D.1 [] 63 rfl ⟨by rw [p2]; exact p4.1, p1, trivial⟩ ?_
          rw [p2, p4.2.2.2.1]
          exact V_xiret D rfl rfl ⟨rfl, rfl, rfl, rfl, RCh.rf, h⟩
      · rw [if_pos q2]
        refine V_run D.1 [] 39 rfl ⟨p1, trivial⟩ ?_
        rw [p3]
        exact V_xiret D rfl rfl ⟨rfl, rfl, rfl, rfl, RCh.rf, h⟩
    · rw [b01_dec0] at q1
      exact bad (fun h => q1 h.2) _
  · rw [if_neg hp]
    refine V_run D.1 [] 10 rfl trivial ?_
    refine V_null D.1 21 rfl rfl (fun q5 => ?_) (fun q5 => absurd q5 (by omega))
    exact bad (fun h => hp h.1) _
theorem s_dTotal {w : Int} (h : DkAt T I N d x) (h4 : xIn w) : XSpec mX9_total 7 [.inr (.inr d), .inl w] z T I N 1 6 (OpP z T I N d rI (dTotal x w)) (OpX z T I N d cs2 (dTotal x w)) := by
  obtain ⟨⟨a1, a2, a3, a4, a5⟩, b1, ⟨⟨sa, sv, sn, ⟨⟨c1, c2, -⟩, -, S1, -⟩⟩, ⟨i5, i6, i7⟩, -⟩, -⟩ := _root_.id h
  have t0 : T (N d 2) = some (.inr 7) := by rw [a4]; exact c1
  have t1 : T (N (N d 2) 0) = some (.inr 8) := by rw [a4, c2]; exact S1.1.1
  refine XSpec_of okX9_total (by decide) (by decide) (Nat.le_of_ble_eq_true rfl) fun Γ E D => ?_
  refine V_run D.1 [] 1 rfl trivial ?_
  by_cases hw : 0 ≤ w ∧ w ≤ 5
  · have e : dTotal x w = (0, (if w = 0 then (x.1.length : Int) else if w = 1 then (x.2.2.1.1.length : Int) else if w = 2 then x.2.2.1.2 else if w = 3 then x.2.2.2.1.1 else if w = 4 then x.2.2.2.1.2.1 else x.2.2.2.1.2.2), x) := by unfold dTotal; rw [if_neg (fun h => h hw)]
    rw [e]
    rcases (by omega : w = 0 ∨ w = 1 ∨ w = 2 ∨ w = 3 ∨ w = 4 ∨ w = 5) with c | c | c | c | c | c <;> subst c
    · refine V_tswIn D.1 40 rfl h4 ⟨by decide, by decide⟩ rfl rfl ?_
      refine V_run D.1 [] 47 rfl ⟨by rw [a2]; exact b1.1, a1, trivial⟩ ?_
      rw [a2, b1.2.2.2.1]
      exact V_xiret D rfl rfl ⟨rfl, rfl, rfl, rfl, RCh.rf, h⟩
    · refine V_tswIn D.1 48 rfl h4 ⟨by decide, by decide⟩ rfl rfl ?_
      refine V_run D.1 [] 58 rfl ⟨t1, t0, a1, trivial⟩ ?_
      rw [a4, c2, S1.1.2.2.2.1]
      exact V_xiret D rfl rfl ⟨rfl, rfl, rfl, rfl, RCh.rf, h⟩
    · refine V_tswIn D.1 59 rfl h4 ⟨by decide, by decide⟩ rfl rfl ?_
      refine V_run D.1 [] 69 rfl ⟨t1, t0, a1, trivial⟩ ?_
      rw [a4, c2, S1.1.2.2.2.2.2]
      exact V_xiret D rfl rfl ⟨rfl, rfl, rfl, rfl, RCh.rf, h⟩
    · refine V_tswIn D.1 70 rfl h4 ⟨by decide, by decide⟩ rfl rfl ?_
      refine V_run D.1 [] 77 rfl ⟨t0, a1, trivial⟩ ?_
      rw [a4, i5]
      exact V_xiret D rfl rfl ⟨rfl, rfl, rfl, rfl, RCh.rf, h⟩
    · refine V_tswIn D.1 78 rfl h4 ⟨by decide, by decide⟩ rfl rfl ?_
      refine V_run D.1 [] 85 rfl ⟨t0, a1, trivial⟩ ?_
      rw [a4, i6]
      exact V_xiret D rfl rfl ⟨rfl, rfl, rfl, rfl, RCh.rf, h⟩
    · refine V_tswIn D.1 86 rfl h4 ⟨by decide, by decide⟩ rfl rfl ?_
      refine V_run D.1 [] 93 rfl ⟨t0, a1, trivial⟩ ?_
      rw [a4, i7]
      exact V_xiret D rfl rfl ⟨rfl, rfl, rfl, rfl, RCh.rf, h⟩
  · have e : dTotal x w = (1, 0, x) := by unfold dTotal; rw [if_pos hw]
    rw [e]
    refine V_tswOut D.1 94 rfl h4 (by omega) rfl ?_
    exact V_throw D (47, 51, "java/lang/IllegalArgumentException") (by decide) (143, "what is not 0 .. 5") (by decide) rfl rfl rfl rfl rfl rfl rfl ⟨by decide, by decide⟩ (fun z' hz => ⟨Nat.succ_ne_zero _, rfl, hz, rfl, RCh.rf, h⟩)
theorem s_dResource {k w : Int} (h : DkAt T I N d x) (h3 : xIn k) (h4 : xIn w) : XSpec mX9_resource 7 [.inr (.inr d), .inl k, .inl w] z T I N 1 6 (OpP z T I N d rI (dResource x k w)) (OpX z T I N d cs2 (dResource x k w)) := by
  obtain ⟨⟨a1, a2, a3, a4, a5⟩, b1, ⟨⟨sa, sv, sn, ⟨⟨c1, c2, -⟩, -, S1, -⟩⟩, ⟨i5, i6, i7⟩, -⟩, -⟩ := _root_.id h
  have t0 : T (N d 2) = some (.inr 7) := by rw [a4]; exact c1
  refine XSpec_of okX9_resource (by decide) (by decide) (Nat.le_of_ble_eq_true rfl) fun Γ E D => ?_
  have bad : ¬ ((0 ≤ k ∧ k < x.2.2.1.1.length) ∧ 0 ≤ w ∧ w ≤ 2) → ∀ lv, V Γ E (xQX Γ E (OpP z T I N d rI (dResource x k w)) (OpX z T I N d cs2 (dResource x k w)) 1 6) z T I N 0 0 24 lv [] := fun hc lv => by
    have e : dResource x k w = (1, 0, x) := by unfold dResource; rw [if_pos hc]
    rw [e]
    exact V_throw D (47, 51, "java/lang/IllegalArgumentException") (by decide) (190, "there is no such resource, or what is not 0 .. 2") (by decide) rfl rfl rfl rfl rfl rfl rfl ⟨by decide, by decide⟩ (fun z' hz => ⟨Nat.succ_ne_zero _, rfl, hz, rfl, RCh.rf, h⟩)
  refine V_run D.1 [] 8 rfl ⟨t0, a1, trivial⟩ ?_
  rw [a4, c2]
  refine V_askV (av := [.inl k]) (st := []) D.1 mwX8_at rfl lkX9_X8_at (s_stat S1 h3) S1.1.1 rfl ⟨Nat.zero_le _, Nat.zero_le _⟩ ?_
  unfold rref
  by_cases hp : 0 ≤ k ∧ k < x.2.2.1.1.length
  · rw [if_pos hp]
    obtain ⟨⟨r1, r2, r3, r4, r5, r6, r7⟩, o2, o3⟩ := S1.res (k := k.toNat) (by omega)
    refine V_run D.1 [] 13 rfl trivial ?_
    refine V_null D.1 24 rfl rfl (fun q5 => absurd q5 (by omega)) (fun q5 => ?_)
    refine V_run D.1 [] 18 rfl trivial ?_
    refine V_askS (av := [.inl w, .inl 2]) (st := []) D.1 mwX9_within rfl lkX9_X9_within (s_within h4 (by omega)) rfl ⟨Nat.zero_le _, Nat.zero_le _⟩ ?_
    refine V_ne D.1 34 rfl rfl (b01_in _) (fun q1 => ?_) (fun q1 => ?_)
    · rw [b01_dec1] at q1
      have e : dResource x k w = (0, (if w = 0 then ((rsd x.2.2.1.1 k.toNat).1.length : Int) else if w = 1 then ((rsd x.2.2.1.1 k.toNat).2.1.length : Int) else (rsd x.2.2.1.1 k.toNat).2.2), x) := by unfold dResource; rw [if_neg (fun h => h ⟨hp, q1⟩)]
      rw [e]
      refine V_run D.1 [] 35 rfl trivial ?_
      refine V_ne D.1 43 rfl rfl h4 (fun q2 => ?_) (fun q2 => ?_)
      · rw [if_neg q2]
        refine V_run D.1 [] 45 rfl trivial ?_
        refine V_ine D.1 58 rfl rfl h4 (by omega) (fun q3 => ?_) (fun q3 => ?_)
        · rw [if_neg q3]
          refine V_run D.1 [] 62 rfl ⟨r1, trivial⟩ ?_
          rw [r5]
          exact V_xiret D rfl rfl ⟨rfl, rfl, rfl, rfl, RCh.rf, h⟩
        · rw [if_pos q3]
          refine V_run D.1 [] 62 rfl ⟨by rw [r3]; exact r7.1, r1, trivial⟩ ?_
          rw [r3, r7.2.2.2.1]
          exact V_xiret D rfl rfl ⟨rfl, rfl, rfl, rfl, RCh.rf, h⟩
      · rw [if_pos q2]
        refine V_run D.1 [] 42 rfl ⟨r1, trivial⟩ ?_
        rw [r4]
        exact V_xiret D rfl rfl ⟨rfl, rfl, rfl, rfl, RCh.rf, h⟩
    · rw [b01_dec0] at q1
      exact bad (fun h => q1 h.2) _
  · rw [if_neg hp]
    refine V_run D.1 [] 13 rfl trivial ?_
    refine V_null D.1 24 rfl rfl (fun q5 => ?_) (fun q5 => absurd q5 (by omega))
    exact bad (fun h => hp h.1) _
end XDk4
