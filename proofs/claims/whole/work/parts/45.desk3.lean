theorem prun_len {xs : List Int} : ∀ (k p : Nat) (num : Int) (acc : List Opt) (p' : Nat) (os : List Opt), prun xs k p num acc = some (p', os) → os.length ≤ acc.length + k
  | 0, p, num, acc, p', os, h => by
    unfold prun at h
    cases h
    exact Nat.le_refl _
  | k + 1, p, num, acc, p', os, h => by
    unfold prun at h
    split at h
    · split at h
      · cases h
      · have := prun_len k _ _ _ _ _ h
        simp at this
        omega
    · cases h
      omega
theorem rd_rng (xs : List Int) : ((rd xs).1 = 0 ∨ (-6 ≤ (rd xs).1 ∧ (rd xs).1 ≤ -1)) ∧ (rd xs).2.2.2.2.2.1.length ≤ xs.length := by
  unfold rd
  split
  · exact ⟨Or.inr (by dsimp only; omega), by simp⟩
  · split
    · exact ⟨Or.inr (by dsimp only; omega), by simp⟩
    · split
      · exact ⟨Or.inr (by dsimp only; omega), by simp⟩
      · split
        · exact ⟨Or.inr (by dsimp only; omega), by simp⟩
        · rename_i p os hr
          have h := prun_len _ _ _ _ _ _ hr
          unfold rdE
          split
          · exact ⟨Or.inr (by dsimp only; omega), by simp⟩
          · split
            · exact ⟨Or.inr (by dsimp only; omega), by simp⟩
            · exact ⟨Or.inl rfl, by simpa using h⟩
def dServe (x : Dk) (p : Int) : Nat × Int × Dk := if ¬ (0 ≤ p ∧ p ≤ 9) then (1, 0, x) else if (rd x.1).1 < 0 ∨ 20 < (rd x.1).2.2.2.2.2.1.length then (0, -1, ([], x.2)) else
  (0, (tk x.2.2 (rd x.1).2 p.toNat).1, ((tk x.2.2 (rd x.1).2 p.toNat).2.1, x.2.1, (tk x.2.2 (rd x.1).2 p.toNat).2.2))
section XDk3
variable {Γ : xG} {E : xE} {M : xM} {z : Nat} {T : xY} {I : xI} {N : xN} {d b room lev mc ms pc : Nat} {x : Dk} {xs : List Int} {lv : xL} {post : xPo} {xp : xXp}
theorem DkAt.spare (h : DkAt T I N d x) {I' : xI} {N' : xN} {s : Nat} {g : Msg} {lat : Option Nat} (hs : s = N d 4) (hf : R2 (d + 3) s (s + 66) I N I' N') (hM : MAt T I' N' s 20 g lat) : RCh d (d + 494) I N I' N' ∧ DkAt T I' N' d x := by
  obtain ⟨⟨a1, a2, a3, a4, a5⟩, b1, s1, mb, ms, ⟨n1, n2, n3⟩, m1, g', lat', m2⟩ := h
  rw [n2] at hs
  subst hs
  have hd := hf.2 d (by omega)
  refine ⟨fun a ha => ⟨hf.1 a (by omega) (by omega), hf.2 a (by omega)⟩, ⟨a1, by rw [hd]; exact a2, by rw [hd]; exact a3, by rw [hd]; exact a4, a5⟩, b1.kept (hf.1 _ (by omega) (by omega)) (hf.1 _ (by omega) (by omega)) (hf.2 _ (by omega)), s1.kept (fun a h1 h2 => ⟨hf.1 a (by omega) (by omega), hf.2 a (by omega)⟩), mb, s, ⟨by rw [hd]; exact n1, by rw [hd]; exact n2, n3⟩, m1.kept (fun a h1 h2 => ⟨hf.1 a (by omega) (by omega), hf.2 a (by omega)⟩), g, lat, hM⟩
theorem s_dRead (h : DkAt T I N d x) : XSpec mX9_read 7 [.inr (.inr d)] z T I N 1 6 (OpP z T I N d rI (dRead x)) (OpX z T I N d csUO (dRead x)) := by
  obtain ⟨⟨a1, a2, a3, a4, a5⟩, b1, s1, m, s, ⟨n1, n2, n3⟩, m1, g', lat', m2⟩ := _root_.id h
  have h5 := b1.2.2.2.2.1
  have hrr := rd_rng x.1
  refine XSpec_of okX9_read (by decide) (by decide) (Nat.le_of_ble_eq_true rfl) fun Γ E D => ?_
  refine V_run D.1 [] 12 rfl ⟨a1, a1, a1, trivial⟩ ?_
  rw [a3, a2, n2]
  refine V_chV (av := [.inr (.inr (d + 1)), .inr (.inr s)]) (st := []) D.1 mwX4_parse rfl lkX9_X4_parse (s_parse a5 (by omega) b1 (by omega) m2) a5 rfl ⟨Nat.zero_le _, Nat.zero_le _⟩ (fun r I1 N1 P1 => ?_)
  obtain ⟨f1, g, lat, k1, hc⟩ := P1
  obtain ⟨R1, D1⟩ := h.spare n2.symm f1 k1
  rcases hc with ⟨c1, rfl⟩ | ⟨c1, rfl, rfl, c3⟩
  · have e : dRead x = (0, (rd x.1).1, x) := by unfold dRead; rw [if_pos c1]
    rw [e]
    refine V_run D.1 [] 19 rfl trivial ?_
    refine V_ile D.1 32 rfl rfl (by omega) (by omega) (fun q1 => ?_) (fun q1 => absurd q1 (by omega))
    refine V_run D.1 [] 33 rfl trivial ?_
    refine V_lt D.1 54 rfl rfl (by omega) (fun q2 => ?_) (fun q2 => absurd c1 q2)
    refine V_run D.1 [] 55 rfl trivial ?_
    exact V_xiret D rfl rfl ⟨rfl, rfl, rfl, rfl, R1, D1⟩
  · refine V_run D.1 [] 19 rfl trivial ?_
    refine V_ile D.1 32 rfl rfl (by omega) (by omega) (fun q1 => ?_) (fun q1 => ?_)
    · have e : dRead x = (0, ((rd x.1).2.2.2.2.2.1.length : Int), (x.1, ((rd x.1).2, none), x.2.2)) := by unfold dRead; rw [if_neg (by omega), if_neg (by omega)]
      rw [e]
      rw [List.take_of_length_le (by omega)] at c3
      refine V_run D.1 [] 33 rfl trivial ?_
      refine V_lt D.1 54 rfl rfl (by omega) (fun q2 => absurd q2 (by omega)) (fun q2 => ?_)
      have hN1 := f1.2 d (by omega)
      refine V_run D.1 [] 55 rfl ⟨a1, a1, a1, a1, trivial⟩ ?_
      rw [hN1, n1, n2]
      refine V_xiret D rfl rfl ⟨rfl, rfl, rfl, rfl, fun a ha => ⟨(R1 a ha).1, by rw [xup_ne (by omega), xup_ne (by omega)]; exact (R1 a ha).2⟩, ?_⟩
      obtain ⟨⟨a1', a2', a3', a4', a5'⟩, b1', s1', mb', ms', ⟨n1', n2', n3'⟩, m1', g'', lat'', m2'⟩ := D1
      rw [hN1, n1] at n1'
      rw [hN1, n2] at n2'
      subst n1' n2'
      have o1 : ∀ a, a ≠ d → xup (xup N1 d 3 s) d 4 m a = N1 a := fun a ha => by rw [xup_ne ha, xup_ne ha]
      have o2 : ∀ j, j ≠ 3 → j ≠ 4 → xup (xup N1 d 3 s) d 4 m d j = N1 d j := fun j h1 h2 => by rw [xup_at, xup_at]; unfold va_up; rw [if_neg h2, if_neg h1]
      refine ⟨⟨a1', by rw [o2 _ (by decide) (by decide)]; exact a2', by rw [o2 _ (by decide) (by decide)]; exact a3', by rw [o2 _ (by decide) (by decide)]; exact a4', a5'⟩, b1'.kept rfl rfl (o1 _ (by omega)), s1'.kept (fun a h1 h2 => ⟨rfl, o1 a (by omega)⟩), s, m, ⟨?_, ?_, by omega⟩, ?_, _, _, m1'.kept (fun a h1 h2 => ⟨rfl, o1 a (by omega)⟩)⟩
      · rw [xup_at, xup_at]; rfl
      · rw [xup_at]; rfl
      · rw [c3] at k1
        exact k1.kept (fun a h1 h2 => ⟨rfl, o1 a (by omega)⟩)
    · have e : dRead x = (1, 0, x) := by unfold dRead; rw [if_neg (by omega), if_pos (by omega)]
      rw [e]
      exact V_throw D (129, 133, "java/lang/UnsupportedOperationException") (by decide) (131, "more than 20 options") (by decide) rfl rfl rfl rfl rfl rfl rfl ⟨by decide, by decide⟩ (fun z' hz => ⟨Nat.succ_ne_zero _, rfl, hz, rfl, R1, D1⟩)
theorem s_dServe {p : Int} (h : DkAt T I N d x) (hx : DkOk x) (h4 : xIn p) : XSpec mX9_serve 7 [.inr (.inr d), .inl p] z T I N 1 6 (OpP z T I N d rI (dServe x p)) (OpX z T I N d cs2 (dServe x p)) := by
  obtain ⟨⟨a1, a2, a3, a4, a5⟩, b1, s1, m, s, ⟨n1, n2, n3⟩, m1, g', lat', m2⟩ := _root_.id h
  have h5 := b1.2.2.2.2.1
  have h7 := b1.2.2.2.2.2.2.1
  have hrr := rd_rng x.1
  refine XSpec_of okX9_serve (by decide) (by decide) (Nat.le_of_ble_eq_true rfl) fun Γ E D => ?_
  refine V_run D.1 [] 3 rfl trivial ?_
  refine V_askS (av := [.inl p, .inl 9]) (st := []) D.1 mwX9_within rfl lkX9_X9_within (s_within h4 (by omega)) rfl ⟨Nat.zero_le _, Nat.zero_le _⟩ ?_
  refine V_ne D.1 19 rfl rfl (b01_in _) (fun q4 => ?_) (fun q4 => ?_)
  · rw [b01_dec1] at q4
    refine V_run D.1 [] 31 rfl ⟨a1, a1, a1, trivial⟩ ?_
    rw [a3, a2, n2]
    refine V_chV (av := [.inr (.inr (d + 1)), .inr (.inr s)]) (st := []) D.1 mwX4_parse rfl lkX9_X4_parse (s_parse a5 (by omega) b1 (by omega) m2) a5 rfl ⟨Nat.zero_le _, Nat.zero_le _⟩ (fun r I1 N1 P1 => ?_)
    obtain ⟨f1, g, lat, k1, hc⟩ := P1
    obtain ⟨R1, D1⟩ := h.spare n2.symm f1 k1
    have hN1 := f1.2 d (by omega)
    have b1' : BAt T I1 N1 (d + 1) 2000 x.1 := D1.2.1
    have clr : ∀ (y : Int), V Γ E (xQX Γ E (OpP z T I N d rI (dServe x p)) (OpX z T I N d cs2 (dServe x p)) 1 6) z T I1 N1 0 0 34 (xlv [some (.inr (.inr d)), some (.inl p)]) [.inl y] = V Γ E (xQX Γ E (OpP z T I N d rI (dServe x p)) (OpX z T I N d cs2 (dServe x p)) 1 6) z T I1 N1 0 0 34 (xlv [some (.inr (.inr d)), some (.inl p)]) [.inl y] := fun _ => rfl
    rcases hc with ⟨c1, rfl⟩ | ⟨c1, rfl, rfl, c3⟩
    · have e : dServe x p = (0, -1, ([], x.2)) := by unfold dServe; rw [if_neg (fun h => h q4), if_pos (Or.inl c1)]
      rw [e]
      refine V_run D.1 [] 39 rfl ⟨a1, trivial⟩ ?_
      rw [hN1, a2]
      refine V_putB (av := []) (st := []) D.1 mwX0_clear rfl lkX9_X0_clear (s_clear b1') b1.1 rfl ⟨Nat.zero_le _, Nat.zero_le _⟩ (fun I2 e2 d2 => ?_)
      obtain ⟨R2, D2⟩ := D1.setH e2 d2
      refine V_run D.1 [] 43 rfl trivial ?_
      refine V_lt D.1 52 rfl rfl (by omega) (fun q2 => ?_) (fun q2 => absurd c1 q2)
      refine V_run D.1 [] 53 rfl trivial ?_
      exact V_xiret D rfl rfl ⟨rfl, rfl, rfl, rfl, R1.trans R2, D2⟩
    · refine V_run D.1 [] 39 rfl ⟨a1, trivial⟩ ?_
      rw [hN1, a2]
      refine V_putB (av := []) (st := []) D.1 mwX0_clear rfl lkX9_X0_clear (s_clear b1') b1.1 rfl ⟨Nat.zero_le _, Nat.zero_le _⟩ (fun I2 e2 d2 => ?_)
      obtain ⟨R2, D2⟩ := D1.setH e2 d2
      refine V_run D.1 [] 43 rfl trivial ?_
      refine V_lt D.1 52 rfl rfl (by omega) (fun q2 => absurd q2 (by omega)) (fun q2 => ?_)
      refine V_run D.1 [] 49 rfl trivial ?_
      refine V_ile D.1 54 rfl rfl (by omega) (by omega) (fun q3 => ?_) (fun q3 => ?_)
      · have e : dServe x p = (0, (tk x.2.2 (rd x.1).2 p.toNat).1, ((tk x.2.2 (rd x.1).2 p.toNat).2.1, x.2.1, (tk x.2.2 (rd x.1).2 p.toNat).2.2)) := by unfold dServe; rw [if_neg (fun h => h q4), if_neg (by omega)]
        rw [e]
        rw [List.take_of_length_le (by omega)] at c3
        obtain ⟨ok1, ok2⟩ := rd_ok (xs := x.1) h7 c1
        have hfit : (pe (pth (rd x.1).2.2.2.2.2.1)).length ≤ 2040 := by have := pe_le (rd x.1).2.2.2.2.2.1; omega
        have k2 : MAt T I2 N1 s 20 (rd x.1).2 none := by rw [c3] at k1; exact k1.kept (fun a h1 h2 => ⟨e2 a (by omega) (by omega), rfl⟩)
        obtain ⟨⟨a1', a2', a3', a4', a5'⟩, b2', s2', mb', ms', ⟨n1', n2', n3'⟩, m1', g'', lat'', m2'⟩ := D2
        rw [hN1, n1] at n1'
        rw [hN1, n2] at n2'
        subst n1' n2'
        refine V_run D.1 [] 67 rfl ⟨a1, a1, a1, trivial⟩ ?_
        rw [hN1, a4, n2, a2]
        have ep : ((p.toNat : Nat) : Int) = p := by omega
        have hs := s_take (z := z) (p := p.toNat) s2' hx.2 k2 ok1 hfit (by omega) d2 (by omega) (by omega) (by omega)
        rw [ep] at hs
        refine V_chV (av := [.inr (.inr s), .inl p, .inr (.inr (d + 1))]) (st := []) D.1 mwX7_take rfl lkX9_X7_take hs s2'.1.choose_spec.choose_spec.choose_spec.1.1 rfl ⟨Nat.zero_le _, Nat.zero_le _⟩ (fun r I3 N3 P3 => ?_)
        obtain ⟨rfl, g1, g2, S3, B3⟩ := P3
        have hN3 := g2 d (by omega)
        refine V_xiret D rfl rfl ⟨rfl, rfl, rfl, rfl, (R1.trans R2).trans (fun a ha => ⟨g1 a (by omega) (by omega) (by omega), g2 a (by omega)⟩), ⟨a1', by rw [hN3]; exact a2', by rw [hN3]; exact a3', by rw [hN3]; exact a4', a5'⟩, B3, S3, m, s, ⟨by rw [hN3, hN1]; exact n1, by rw [hN3, hN1]; exact n2, n3⟩, m1'.kept (fun a h1 h2 => ⟨g1 a (by omega) (by omega) (by omega), g2 a (by omega)⟩), _, _, m2'.kept (fun a h1 h2 => ⟨g1 a (by omega) (by omega) (by omega), g2 a (by omega)⟩)⟩
      · have e : dServe x p = (0, -1, ([], x.2)) := by unfold dServe; rw [if_neg (fun h => h q4), if_pos (Or.inr (by omega))]
        rw [e]
        refine V_run D.1 [] 53 rfl trivial ?_
        exact V_xiret D rfl rfl ⟨rfl, rfl, rfl, rfl, R1.trans R2, D2⟩
  · rw [b01_dec0] at q4
    have e : dServe x p = (1, 0, x) := by unfold dServe; rw [if_pos q4]
    rw [e]
    exact V_throw D (47, 51, "java/lang/IllegalArgumentException") (by decide) (162, "there is no such peer") (by decide) rfl rfl rfl rfl rfl rfl rfl ⟨by decide, by decide⟩ (fun z' hz => ⟨Nat.succ_ne_zero _, rfl, hz, rfl, RCh.rf, h⟩)
theorem s_dHand {i : Int} (h : DkAt T I N d x) (h4 : xIn i) : Spec mX9_hand 7 [.inr (.inr d), .inl i] z T I N 0 0 (xSame z T I N (some (.inl (bat x.1 i)))) := by
  obtain ⟨⟨a1, a2, a3, a4, a5⟩, b1, -⟩ := _root_.id h
  refine Spec_of okX9_hand (by decide) (by decide) (Nat.le_of_ble_eq_true rfl) fun Γ E D => ?_
  refine V_run D [] 5 rfl ⟨a1, trivial⟩ ?_
  rw [a2]
  refine V_askV (av := [.inl i]) (st := []) D mwX0_at rfl lkX9_X0_at (s_at b1 h4) b1.1 rfl ⟨Nat.le_refl _, Nat.le_refl _⟩ ?_
  exact V_iret D rfl rfl ⟨rfl, rfl, rfl, rfl, rfl⟩
end XDk3
