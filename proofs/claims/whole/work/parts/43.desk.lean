/-! CoapDesk: bytes at hand, the message begun and the place of the option put latest, the server -/
abbrev Dk : Type := List Int × (Msg × Option Nat) × Sv
def DkAt (T : xY) (I : xI) (N : xN) (d : Nat) (x : Dk) : Prop :=
  (T d = some (.inr 9) ∧ N d 0 = d + 1 ∧ N d 1 = d + 3 ∧ N d 2 = d + 4 ∧ T (d + 3) = some (.inr 4)) ∧ BAt T I N (d + 1) 2000 x.1 ∧ SvAt T I N (d + 4) x.2.2 ∧
  ∃ mb ms : Nat, (N d 3 = mb ∧ N d 4 = ms ∧ ((mb = d + 362 ∧ ms = d + 428) ∨ (mb = d + 428 ∧ ms = d + 362))) ∧ MAt T I N mb 20 x.2.1.1 x.2.1.2 ∧ ∃ g' lat', MAt T I N ms 20 g' lat'
def DkOk (x : Dk) : Prop := MOk x.2.1.1 ∧ SvOk x.2.2
def OpP (z : Nat) (T : xY) (I : xI) (N : xN) (d : Nat) (v : Int → Option xV) (o : Nat × Int × Dk) : xPo := xCg z T fun rr I' N' => o.1 = 0 ∧ rr = v o.2.1 ∧ RCh d (d + 494) I N I' N' ∧ DkAt T I' N' d o.2.2
def OpX (z : Nat) (T : xY) (I : xI) (N : xN) (d : Nat) (cs : Nat → String) (o : Nat × Int × Dk) : xXp := fun cls z' T' I' N' => o.1 ≠ 0 ∧ cls = cs o.1 ∧ z ≤ z' ∧ T' = T ∧ RCh d (d + 494) I N I' N' ∧ DkAt T I' N' d o.2.2
def cs2 (k : Nat) : String := if k = 1 then "java/lang/IllegalArgumentException" else "java/lang/IllegalStateException"
def csIS (_ : Nat) : String := "java/lang/IllegalStateException"
def csUO (_ : Nat) : String := "java/lang/UnsupportedOperationException"
def rI (x : Int) : Option xV := some (.inl x)
def rV (_ : Int) : Option xV := none
def lows (w n : Int) : List Int := (List.range n.toNat).map (lowb w)
theorem lows_len (w n : Int) : (lows w n).length = n.toNat := by unfold lows; simp
theorem lows_ok (w n : Int) : BsOk (lows w n) := fun v hv => by
  unfold lows at hv
  rw [List.mem_map] at hv
  obtain ⟨i, -, e⟩ := hv
  rw [← e]; exact lowb_rng w i
def dBegin (x : Dk) (ty co id w n : Int) : Nat × Int × Dk := if (0 ≤ ty ∧ ty ≤ 3) ∧ (0 ≤ co ∧ co ≤ 255) ∧ (0 ≤ id ∧ id ≤ 65535) ∧ 0 ≤ n ∧ n ≤ 8 then (0, 0, (x.1, ((ty, co, id, lows w n, [], []), none), x.2.2)) else (1, 0, x)
def dOption (x : Dk) (num w n : Int) : Nat × Int × Dk := if ¬ ((0 ≤ num ∧ num ≤ 65535) ∧ 0 ≤ n ∧ n ≤ 8) then (1, 0, x) else if ¬ x.2.1.1.2.2.2.2.1.length < 20 then (2, 0, x) else
  (0, (x.2.1.1.2.2.2.2.1.length : Int) + 1, (x.1, ((x.2.1.1.1, x.2.1.1.2.1, x.2.1.1.2.2.1, x.2.1.1.2.2.2.1, inso (ipos num x.2.1.1.2.2.2.2.1 x.2.1.1.2.2.2.2.1.length) (num, lows w n) x.2.1.1.2.2.2.2.1, x.2.1.1.2.2.2.2.2), some (ipos num x.2.1.1.2.2.2.2.1 x.2.1.1.2.2.2.2.1.length)), x.2.2))
def dLonger (x : Dk) (w n : Int) : Nat × Int × Dk := if ¬ (0 ≤ n ∧ n ≤ 8) then (1, 0, x) else match x.2.1.2 with
  | none => (2, 0, x)
  | some l => if ¬ ((od x.2.1.1.2.2.2.2.1 l).2.length : Int) + n ≤ 400 then (2, 0, x) else (0, ((od x.2.1.1.2.2.2.2.1 l).2.length : Int) + n, (x.1, ((x.2.1.1.1, x.2.1.1.2.1, x.2.1.1.2.2.1, x.2.1.1.2.2.2.1, x.2.1.1.2.2.2.2.1.set l ((od x.2.1.1.2.2.2.2.1 l).1, (od x.2.1.1.2.2.2.2.1 l).2 ++ lows w n), x.2.1.1.2.2.2.2.2), some l), x.2.2))
def dPayload (x : Dk) (w n : Int) : Nat × Int × Dk := if ¬ (0 ≤ n ∧ n ≤ 8) then (1, 0, x) else if ¬ (x.2.1.1.2.2.2.2.2.length : Int) + n ≤ 400 then (2, 0, x) else
  (0, (x.2.1.1.2.2.2.2.2.length : Int) + n, (x.1, ((x.2.1.1.1, x.2.1.1.2.1, x.2.1.1.2.2.1, x.2.1.1.2.2.2.1, x.2.1.1.2.2.2.2.1, x.2.1.1.2.2.2.2.2 ++ lows w n), x.2.1.2), x.2.2))
def dWrite (x : Dk) : Nat × Int × Dk := if 2000 < (wr x.2.1.1).length then (1, 0, x) else (0, ((wr x.2.1.1).length : Int), (wr x.2.1.1, x.2))
def dFeed (x : Dk) (w n : Int) : Nat × Int × Dk := if ¬ (0 ≤ n ∧ n ≤ 8) then (1, 0, x) else if ¬ (x.1.length : Int) + n ≤ 2000 then (2, 0, x) else (0, (x.1.length : Int) + n, (x.1 ++ lows w n, x.2))
def dEnd (x : Dk) (n : Int) : Nat × Int × Dk := if 0 ≤ n ∧ n ≤ x.1.length then (0, 0, (x.1.take n.toNat, x.2)) else (1, 0, x)
def dRead (x : Dk) : Nat × Int × Dk := if (rd x.1).1 < 0 then (0, (rd x.1).1, x) else if 20 < (rd x.1).2.2.2.2.2.1.length then (1, 0, x) else (0, ((rd x.1).2.2.2.2.2.1.length : Int), (x.1, ((rd x.1).2, none), x.2.2))
section XDk
variable {Γ : xG} {E : xE} {M : xM} {z : Nat} {T : xY} {I : xI} {N : xN} {d b room lev mc ms pc : Nat} {x : Dk} {xs : List Int} {lv : xL} {post : xPo} {xp : xXp}
theorem V_xiret (D : xDX Γ E M lev mc ms) {y : Int} (h : xfe M pc = some (.ireturn, 1)) (hr : M.2.2.2.1 = some .int) (hp : post (some (.inl y)) z T I N) : V Γ E (xQX Γ E post xp mc ms) z T I N 0 0 pc lv [.inl y] := V_norm (V_wide (Nat.zero_le _) (Nat.zero_le _) (V_iret D.1 h hr hp))
theorem V_xvret (D : xDX Γ E M lev mc ms) (h : xfe M pc = some (.return_, 1)) (hr : M.2.2.2.1 = none) (hp : post none z T I N) : V Γ E (xQX Γ E post xp mc ms) z T I N 0 0 pc lv [] := V_norm (V_wide (Nat.zero_le _) (Nat.zero_le _) (V_vret D.1 h hr hp))
theorem s_within {y h : Int} (hy : xIn y) (hh : xIn h) : Spec mX9_within 0 [.inl y, .inl h] z T I N 0 0 (xSame z T I N (some (.inl (b01 (decide (0 ≤ y ∧ y ≤ h)))))) := by
  refine Spec_of okX9_within (by decide) (by decide) (Nat.le_of_ble_eq_true rfl) fun Γ E D => ?_
  refine V_run D [] 1 rfl trivial ?_
  refine V_lt D 13 rfl rfl hy (fun q1 => ?_) (fun q1 => ?_)
  · refine V_run D [] 14 rfl trivial ?_
    exact V_zret D rfl rfl (Or.inl rfl) ⟨by unfold b01; rw [if_neg (by simp; omega)], rfl, rfl, rfl, rfl⟩
  · refine V_run D [] 6 rfl trivial ?_
    refine V_igt D 13 rfl rfl hy hh (fun q2 => ?_) (fun q2 => ?_)
    · refine V_run D [] 14 rfl trivial ?_
      exact V_zret D rfl rfl (Or.inl rfl) ⟨by unfold b01; rw [if_neg (by simp; omega)], rfl, rfl, rfl, rfl⟩
    · refine V_run D [] 14 rfl trivial ?_
      exact V_zret D rfl rfl (Or.inr rfl) ⟨by unfold b01; rw [if_pos (by simp; omega)], rfl, rfl, rfl, rfl⟩
theorem b01_dec0 {p : Prop} [Decidable p] : b01 (decide p) = 0 ↔ ¬ p := by rw [b01_0]; simp
theorem b01_dec1 {p : Prop} [Decidable p] : ¬ b01 (decide p) = 0 ↔ p := by rw [b01_0]; simp
theorem nat_of {n : Int} (h : 0 ≤ n) : ((n.toNat : Nat) : Int) = n := by omega
def extP (z : Nat) (T : xY) (I : xI) (N : xN) (b room : Nat) (xs : List Int) (w n : Int) : xPo := fun r z' T' I' N' => ((0 ≤ n ∧ n ≤ 8) ∧ (xs.length : Int) + n ≤ room) ∧ r = some (.inl ((xs.length : Int) + n)) ∧ z' = z ∧ T' = T ∧ N' = N ∧ (∀ a, a ≠ b → a ≠ b + 1 → I' a = I a) ∧ BAt T I' N b room (xs ++ lows w n)
def extX (z : Nat) (T : xY) (I : xI) (N : xN) (room : Nat) (xs : List Int) (n : Int) : xXp := fun cls z' T' I' N' => z ≤ z' ∧ T' = T ∧ I' = I ∧ N' = N ∧ ((cls = "java/lang/IllegalArgumentException" ∧ ¬ (0 ≤ n ∧ n ≤ 8)) ∨ (cls = "java/lang/IllegalStateException" ∧ (0 ≤ n ∧ n ≤ 8) ∧ ¬ (xs.length : Int) + n ≤ room))
theorem s_extend {w n : Int} (hB : BAt T I N b room xs) (hn : xIn n) : XSpec mX9_extend 6 [.inr (.inr b), .inr (.inl w), .inl n] z T I N 1 6 (extP z T I N b room xs w n) (extX z T I N room xs n) := by
  have h5 := hB.2.2.2.2.1
  have h6 := hB.2.2.2.2.2.1
  refine XSpec_of okX9_extend (by decide) (by decide) (Nat.le_of_ble_eq_true rfl) fun Γ E D => ?_
  refine V_run D.1 [] 3 rfl trivial ?_
  refine V_askS (av := [.inl n, .inl 8]) (st := []) D.1 mwX9_within rfl lkX9_X9_within (s_within hn (by omega)) rfl ⟨Nat.zero_le _, Nat.zero_le _⟩ ?_
  refine V_ne D.1 19 rfl rfl (b01_in _) (fun q1 => ?_) (fun q1 => ?_)
  · rw [b01_dec1] at q1
    refine V_run D.1 [] 21 rfl trivial ?_
    refine V_askV (av := [.inl n]) (st := []) D.1 mwX0_hasRoom rfl lkX9_X0_hasRoom (s_hasRoom hB hn) hB.1 rfl ⟨Nat.zero_le _, Nat.zero_le _⟩ ?_
    by_cases hf : n ≤ (room : Int) - xs.length
    · rw [if_pos hf]
      refine V_ne D.1 37 rfl rfl (by omega) (fun q2 => ?_) (fun q2 => absurd q2 (by decide))
      refine V_run D.1 [] 40 rfl trivial ?_
      have hs := s_addLow (z := z) (w := w) (n := n.toNat) hB (by omega) (by omega)
      rw [nat_of q1.1] at hs
      refine V_putB (av := [.inr (.inl w), .inl n]) (st := []) D.1 mwX0_addLowFirst rfl lkX9_X0_addLowFirst hs hB.1 rfl ⟨Nat.zero_le _, Nat.zero_le _⟩ (fun I1 e1 d1 => ?_)
      refine V_run D.1 [] 47 rfl ⟨hB.1, trivial⟩ ?_
      rw [d1.2.2.2.1]
      refine V_xiret D rfl rfl ⟨⟨q1, by omega⟩, ?_, rfl, rfl, rfl, e1, d1⟩
      have e : (xs ++ (List.range n.toNat).map (lowb w)).length = xs.length + n.toNat := by simp
      rw [e, show (((xs.length + n.toNat : Nat)) : Int) = (xs.length : Int) + n by omega]
    · rw [if_neg hf]
      refine V_ne D.1 37 rfl rfl (by omega) (fun q2 => absurd rfl q2) (fun q2 => ?_)
      exact V_throw D (71, 75, "java/lang/IllegalStateException") (by decide) (203, "there would be too many bytes") (by decide) rfl rfl rfl rfl rfl rfl rfl ⟨by decide, by decide⟩ (fun z' hz => ⟨hz, rfl, rfl, rfl, Or.inr ⟨rfl, q1, by omega⟩⟩)
  · rw [b01_dec0] at q1
    exact V_throw D (47, 51, "java/lang/IllegalArgumentException") (by decide) (85, "n is not 0 .. 8") (by decide) rfl rfl rfl rfl rfl rfl rfl ⟨by decide, by decide⟩ (fun z' hz => ⟨hz, rfl, rfl, rfl, Or.inl ⟨rfl, q1⟩⟩)
/-- the desk when the message begun alone has changed -/
theorem DkAt.setG (h : DkAt T I N d x) {I' : xI} {N' : xN} {m : Nat} {g : Msg} {lat : Option Nat} (hm : m = N d 3) (hf : RCh m (m + 66) I N I' N') (hM : MAt T I' N' m 20 g lat) : RCh d (d + 494) I N I' N' ∧ DkAt T I' N' d (x.1, (g, lat), x.2.2) := by
  obtain ⟨⟨a1, a2, a3, a4, a5⟩, b1, s1, mb, ms, ⟨n1, n2, n3⟩, m1, g', lat', m2⟩ := h
  rw [n1] at hm
  subst hm
  have hd := hf d (by omega)
  refine ⟨hf.wide (by omega) (by omega), ⟨a1, by rw [hd.2]; exact a2, by rw [hd.2]; exact a3, by rw [hd.2]; exact a4, a5⟩, b1.kept (hf _ (by omega)).1 (hf _ (by omega)).1 (hf _ (by omega)).2, s1.kept (fun a h1 h2 => hf a (by omega)), m, ms, ⟨by rw [hd.2]; exact n1, by rw [hd.2]; exact n2, n3⟩, hM, g', lat', m2.kept (fun a h1 h2 => hf a (by omega))⟩
theorem DkAt.setH (h : DkAt T I N d x) {I' : xI} {ys : List Int} (hf : ∀ a, a ≠ d + 1 → a ≠ d + 1 + 1 → I' a = I a) (hM : BAt T I' N (d + 1) 2000 ys) : RCh d (d + 494) I N I' N ∧ DkAt T I' N d (ys, x.2) := by
  obtain ⟨⟨a1, a2, a3, a4, a5⟩, b1, s1, mb, ms, ⟨n1, n2, n3⟩, m1, g', lat', m2⟩ := h
  have hd := hf d (by omega) (by omega)
  exact ⟨fun a ha => ⟨hf a (by omega) (by omega), rfl⟩, ⟨a1, a2, a3, a4, a5⟩, hM, s1.kept (fun a h1 h2 => ⟨hf a (by omega) (by omega), rfl⟩), mb, ms, ⟨n1, n2, n3⟩, m1.kept (fun a h1 h2 => ⟨hf a (by omega) (by omega), rfl⟩), g', lat', m2.kept (fun a h1 h2 => ⟨hf a (by omega) (by omega), rfl⟩)⟩
theorem s_dBegin {ty co id w n : Int} (h : DkAt T I N d x) (h1 : xIn ty) (h2 : xIn co) (h3 : xIn id) (h4 : xIn n) : XSpec mX9_begin 7 [.inr (.inr d), .inl ty, .inl co, .inl id, .inr (.inl w), .inl n] z T I N 1 6 (OpP z T I N d rV (dBegin x ty co id w n)) (OpX z T I N d cs2 (dBegin x ty co id w n)) := by
  obtain ⟨⟨a1, a2, a3, a4, a5⟩, b1, s1, m, ms, ⟨n1, n2, n3⟩, m1, g', lat', m2⟩ := _root_.id h
  refine XSpec_of okX9_begin (by decide) (by decide) (Nat.le_of_ble_eq_true rfl) fun Γ E D => ?_
  have bad : ¬ ((0 ≤ ty ∧ ty ≤ 3) ∧ (0 ≤ co ∧ co ≤ 255) ∧ (0 ≤ id ∧ id ≤ 65535) ∧ 0 ≤ n ∧ n ≤ 8) → ∀ lv, V Γ E (xQX Γ E (OpP z T I N d rV (dBegin x ty co id w n)) (OpX z T I N d cs2 (dBegin x ty co id w n)) 1 6) z T I N 0 0 49 lv [] := fun hc lv => by
    have e : dBegin x ty co id w n = (1, 0, x) := by unfold dBegin; rw [if_neg hc]
    rw [e]
    exact V_throw D (47, 51, "java/lang/IllegalArgumentException") (by decide) (49, "type, code, id or n is out of its range") (by decide) rfl rfl rfl rfl rfl rfl rfl ⟨by decide, by decide⟩ (fun z' hz => ⟨Nat.succ_ne_zero _, rfl, hz, rfl, RCh.rf, h⟩)
  have bad0 : ¬ ((0 ≤ ty ∧ ty ≤ 3) ∧ (0 ≤ co ∧ co ≤ 255) ∧ (0 ≤ id ∧ id ≤ 65535)) → V Γ E (xQX Γ E (OpP z T I N d rV (dBegin x ty co id w n)) (OpX z T I N d cs2 (dBegin x ty co id w n)) 1 6) z T I N 0 0 31 (xlv [some (.inr (.inr d)), some (.inl ty), some (.inl co), some (.inl id), some (.inr (.inl w)), none, some (.inl n)]) [] := fun hc => by
    refine V_run D.1 [] 36 rfl trivial ?_
    exact V_eq D.1 49 rfl rfl (by omega) (fun _ => bad (fun h => hc ⟨h.1, h.2.1, h.2.2.1⟩) _) (fun q => absurd rfl q)
  refine V_run D.1 [] 2 rfl trivial ?_
  refine V_askS (av := [.inl ty, .inl 3]) (st := []) D.1 mwX9_within rfl lkX9_X9_within (s_within h1 (by omega)) rfl ⟨Nat.zero_le _, Nat.zero_le _⟩ ?_
  refine V_eq D.1 31 rfl rfl (b01_in _) (fun q1 => ?_) (fun q1 => ?_)
  · rw [b01_dec0] at q1
    exact V_loc [some (.inr (.inr d)), some (.inl ty), some (.inl co), some (.inl id), some (.inr (.inl w)), none, some (.inl n)] rfl (bad0 (fun h => q1 h.1))
  rw [b01_dec1] at q1
  refine V_run D.1 [] 12 rfl trivial ?_
  refine V_askS (av := [.inl co, .inl 255]) (st := []) D.1 mwX9_within rfl lkX9_X9_within (s_within h2 (by omega)) rfl ⟨Nat.zero_le _, Nat.zero_le _⟩ ?_
  refine V_eq D.1 31 rfl rfl (b01_in _) (fun q2 => ?_) (fun q2 => ?_)
  · rw [b01_dec0] at q2
    exact V_loc [some (.inr (.inr d)), some (.inl ty), some (.inl co), some (.inl id), some (.inr (.inl w)), none, some (.inl n)] rfl (bad0 (fun h => q2 h.2.1))
  rw [b01_dec1] at q2
  refine V_run D.1 [] 21 rfl trivial ?_
  refine V_askS (av := [.inl id, .inl 65535]) (st := []) D.1 mwX9_within rfl lkX9_X9_within (s_within h3 (by omega)) rfl ⟨Nat.zero_le _, Nat.zero_le _⟩ ?_
  refine V_eq D.1 31 rfl rfl (b01_in _) (fun q3 => ?_) (fun q3 => ?_)
  · rw [b01_dec0] at q3
    exact V_loc [some (.inr (.inr d)), some (.inl ty), some (.inl co), some (.inl id), some (.inr (.inl w)), none, some (.inl n)] rfl (bad0 (fun h => q3 h.2.2))
  rw [b01_dec1] at q3
  refine V_run D.1 [] 36 rfl trivial ?_
  refine V_eq D.1 49 rfl rfl (by omega) (fun q => absurd q (by decide)) (fun _ => ?_)
  refine V_run D.1 [] 43 rfl trivial ?_
  refine V_askS (av := [.inl n, .inl 8]) (st := []) D.1 mwX9_within rfl lkX9_X9_within (s_within h4 (by omega)) rfl ⟨Nat.zero_le _, Nat.zero_le _⟩ ?_
  refine V_ne D.1 59 rfl rfl (b01_in _) (fun q4 => ?_) (fun q4 => ?_)
  · rw [b01_dec1] at q4
    have e : dBegin x ty co id w n = (0, 0, (x.1, ((ty, co, id, lows w n, [], []), none), x.2.2)) := by unfold dBegin; rw [if_pos ⟨q1, q2, q3, q4⟩]
    rw [e]
    refine V_run D.1 [] 66 rfl ⟨a1, trivial⟩ ?_
    rw [n1]
    refine V_chV (av := [.inl ty, .inl co, .inl id]) (st := []) D.1 mwX1_restart rfl lkX9_X1_restart (s_restart m1) m1.1.1 rfl ⟨Nat.zero_le _, Nat.zero_le _⟩ (fun r I1 N1 P1 => ?_)
    obtain ⟨rfl, f1, k1⟩ := P1
    have hN1 : N1 d 3 = m := by rw [(f1 d (by omega)).2]; exact n1
    have t1 := k1.2.2.1
    refine V_run D.1 [] 80 rfl ⟨by rw [hN1]; exact m1.1.1, a1, trivial⟩ ?_
    rw [hN1, k1.1.2.1]
    have hs := s_addLow (z := z) (w := w) (n := n.toNat) t1 (by omega) (by simp; omega)
    rw [nat_of q4.1] at hs
    refine V_putB (av := [.inr (.inl w), .inl n]) (st := []) D.1 mwX0_addLowFirst rfl lkX9_X0_addLowFirst hs t1.1 rfl ⟨Nat.zero_le _, Nat.zero_le _⟩ (fun I2 e2 d2 => ?_)
    have k2 := k1.setTok e2 d2
    have R := h.setG (m := m) n1.symm (I' := I2) (N' := N1) (fun a ha => ⟨by rw [e2 a (by omega) (by omega)]; exact (f1 a (by omega)).1, (f1 a (by omega)).2⟩) k2
    exact V_xvret D rfl rfl ⟨rfl, rfl, rfl, rfl, R⟩
  · rw [b01_dec0] at q4
    exact bad (fun h => q4 h.2.2.2) _
end XDk
