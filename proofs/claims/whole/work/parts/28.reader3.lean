section XRd3
variable {Γ : xG} {E : xE} {z : Nat} {T : xY} {I : xI} {N : xN} {r b room s : Nat} {xs : List Int} {g : Msg} {lat : Option Nat}
def payPost (T : xY) (I : xI) (N : xN) (r s : Nat) (xs : List Int) (p : Nat) (g : Msg) (lat : Option Nat) : Option xV → xI → xN → Prop := fun rr I' N' => R2 r s (s + 66) I N I' N' ∧
  rr = some (.inl (if 0 < (rdP xs p).length ∧ (rdP xs p).length ≤ 400 then 1 else 0)) ∧ MAt T I' N' s 20 (g.1, g.2.1, g.2.2.1, g.2.2.2.1, g.2.2.2.2.1, if (rdP xs p).length ≤ 400 then rdP xs p else []) lat
theorem s_parsePayload {p : Nat} (hT : T r = some (.inr 4)) (hB : BAt T I N b room xs) (hb : b + 2 ≤ s ∨ s + 66 ≤ b) (h : MAt T I N s 20 g lat) (hp : I r 0 = (p : Int)) (hpl : p < xs.length) (hpay : g.2.2.2.2.2 = []) :
    Spec mX4_parsePayload 2 [.inr (.inr r), .inr (.inr b), .inr (.inr s)] z T I N 0 0 (xCg z T (payPost T I N r s xs p g lat)) := by
  have h5 := hB.2.2.2.2.1
  have h6 := hB.2.2.2.2.2.1
  obtain ⟨⟨a1, a2, a3, a4, a5, a6, a7, a8⟩, ⟨b1, b2, b3⟩, c1, c2, ⟨f, f1, f2, f3, f4⟩, l1⟩ := id h
  rw [hpay] at c2
  have hl : (rdP xs p).length = xs.length - p - 1 := by unfold rdP; rw [if_pos hpl, List.length_drop]; omega
  refine Spec_of okX4_parsePayload (by decide) (by decide) (Nat.le_of_ble_eq_true rfl) fun Γ E D => ?_
  refine V_run D [] 24 rfl ⟨hT, a1, hT, hB.1, trivial⟩ ?_
  rw [hp, hB.2.2.2.1, a3]
  refine V_putB (av := [.inr (.inr b), .inl ((p : Int) + 1), .inl ((xs.length : Int) - p - 1)]) (st := []) D mwX0_addPart rfl lkX4_X0_addPart (s_addPart c2 hB (by omega) (by omega) (by omega)) c2.1 rfl ⟨Nat.le_refl _, Nat.le_refl _⟩ (fun I2 e2 d2 => ?_)
  have d3 : BAt T I2 N (s + 3) 400 (if (rdP xs p).length ≤ 400 then rdP xs p else []) := by
    by_cases hc : (rdP xs p).length ≤ 400
    · rw [if_pos hc]
      rw [if_pos (by simp; omega)] at d2
      have e : ([] : List Int) ++ (xs.drop ((p : Int) + 1).toNat).take ((xs.length : Int) - p - 1).toNat = rdP xs p := by
        unfold rdP
        rw [if_pos hpl, List.nil_append, show ((p : Int) + 1).toNat = p + 1 by omega, List.take_of_length_le (by rw [List.length_drop]; omega)]
      rw [e] at d2
      exact d2
    · rw [if_neg hc]
      rw [if_neg (by simp; omega)] at d2
      exact d2
  have hM := h.setPay e2 d3
  have hR : R2 r s (s + 66) I N I2 N := ⟨fun q q1 q2 => e2 q (by omega) (by omega), fun q q2 => rfl⟩
  refine V_run D [] 28 rfl trivial ?_
  refine V_le D 42 rfl rfl (by omega) (fun q1 => ?_) (fun q1 => ?_)
  · refine V_run D [] 43 rfl trivial ?_
    exact V_zret D rfl rfl (Or.inl rfl) ⟨rfl, rfl, hR, by rw [if_neg (by omega)], hM⟩
  · refine V_run D [] 35 rfl trivial ?_
    refine V_igt D 42 rfl rfl (by omega) (by omega) (fun q2 => ?_) (fun q2 => ?_)
    · refine V_run D [] 43 rfl trivial ?_
      exact V_zret D rfl rfl (Or.inl rfl) ⟨rfl, rfl, hR, by rw [if_neg (by omega)], hM⟩
    · refine V_run D [] 43 rfl trivial ?_
      exact V_zret D rfl rfl (Or.inr rfl) ⟨rfl, rfl, hR, by rw [if_pos (by omega)], hM⟩
/-- what comes of reading into s: how many options, or the fault -/
def parsePost (T : xY) (I : xI) (N : xN) (r s : Nat) (xs : List Int) : Option xV → xI → xN → Prop := fun rr I' N' => R2 r s (s + 66) I N I' N' ∧ ∃ g lat, MAt T I' N' s 20 g lat ∧
  ((rd xs).1 < 0 ∧ rr = some (.inl (rd xs).1) ∨ (rd xs).1 = 0 ∧ rr = some (.inl ((rd xs).2.2.2.2.2.1.length : Int)) ∧ lat = none ∧ g = ((rd xs).2.1, (rd xs).2.2.1, (rd xs).2.2.2.1, (rd xs).2.2.2.2.1, (rd xs).2.2.2.2.2.1.take 20, (rd xs).2.2.2.2.2.2))
theorem otake20 (acc : List Opt) (q : Opt) : (if (acc.take 20).length < 20 then acc.take 20 ++ [q] else acc.take 20) = (acc ++ [q]).take 20 := by
  by_cases h : acc.length < 20
  · rw [List.take_of_length_le (by omega), if_pos h, List.take_of_length_le (by simp; omega)]
  · rw [if_neg (by simp; omega), List.take_append_of_le_length (by omega)]
theorem l_parse {p0 : Nat} {ty co id : Int} {tok : List Int} (D : xD Γ E mX4_parse 3 0 0) (hT : T r = some (.inr 4)) (hr : r < s ∨ s + 66 ≤ r) (hb : b + 2 ≤ s ∨ s + 66 ≤ b) (hbs : T b = some (.inr 0) ∧ T (b + 1) = some (.inl (0, room)))
    (hrd : rd xs = match prun xs xs.length p0 0 [] with
      | none => (-4, 0, 0, 0, [], [], [])
      | some (p, os) => rdE xs p os)
    (hg : ty = xs.getD 0 0 / 16 % 4 ∧ co = xs.getD 1 0 ∧ id = 256 * xs.getD 2 0 + xs.getD 3 0 ∧ tok = (xs.drop 4).take (xs.getD 0 0 % 16).toNat) (hco : 0 ≤ co ∧ co < 256) :
    ∀ (k p : Nat) (num : Int) (acc : List Opt) (I1 : xI) (N1 : xN) (lat : Option Nat), k + acc.length = xs.length → acc.length + 4 ≤ p → p ≤ xs.length → prun xs xs.length p0 0 [] = prun xs k p num acc → 0 ≤ num ∧ num ≤ 65535 → (∀ q ∈ acc, 0 ≤ q.1 ∧ q.1 ≤ num) →
      R2 r s (s + 66) I N I1 N1 → BAt T I1 N1 b room xs → I1 r 0 = (p : Int) → I1 r 1 = num → MAt T I1 N1 s 20 (ty, co, id, tok, acc.take 20, []) lat →
      V Γ E (xQ Γ E (xCg z T (parsePost T I N r s xs)) 0 0) z T I1 N1 0 0 24 (xlv [some (.inr (.inr r)), some (.inr (.inr b)), some (.inr (.inr s)), some (.inl 0), some (.inl (acc.length : Int)), some (.inl (acc.length : Int))]) []
  | 0, p, num, acc, I1, N1, lat, hk, hp4, hpl, hpr, hnum, hle, hR, hB, hip, hin, hM => by omega
  | k + 1, p, num, acc, I1, N1, lat, hk, hp4, hpl, hpr, hnum, hle, hR, hB, hip, hin, hM => by
    have h5 := hB.2.2.2.2.1
    have h6 := hB.2.2.2.2.2.1
    have h7 := hB.2.2.2.2.2.2.1
    -- behind the options
    have out : ¬ (p < xs.length ∧ ¬ xs.getD p 0 = 255) → V Γ E (xQ Γ E (xCg z T (parsePost T I N r s xs)) 0 0) z T I1 N1 0 0 79 (xlv [some (.inr (.inr r)), some (.inr (.inr b)), some (.inr (.inr s)), some (.inl 0), some (.inl (acc.length : Int)), some (.inl (acc.length : Int))]) [] := fun hstop => by
      have hpe : prun xs (k + 1) p num acc = some (p, acc) := by unfold prun; rw [if_neg hstop]
      rw [hpr, hpe] at hrd
      dsimp only at hrd
      have hM' := hM.unlatest
      have n' : ∀ a, a ≠ s → xup N1 s 4 0 a = N1 a := fun a ha => xup_ne ha
      have hR' : R2 r s (s + 66) I N I1 (xup N1 s 4 0) := ⟨hR.1, fun a ha => by rw [n' a (by omega)]; exact hR.2 a ha⟩
      have hB' : BAt T I1 (xup N1 s 4 0) b room xs := hB.kept rfl rfl (n' _ (by omega))
      refine V_run D [] 92 rfl ⟨hbs.1, hT, hM.1.1, trivial⟩ ?_
      rw [hip, hB.2.2.2.1]
      -- the end, with the payload read
      have fin : ∀ (I2 : xI) (N2 : xN) (pay : List Int), R2 r s (s + 66) I N I2 N2 → BAt T I2 N2 b room xs → MAt T I2 N2 s 20 (ty, co, id, tok, acc.take 20, pay) none → ¬ (p < xs.length ∧ ((rdP xs p).length = 0 ∨ (rdP xs p).length > 400)) → pay = rdP xs p →
          V Γ E (xQ Γ E (xCg z T (parsePost T I N r s xs)) 0 0) z T I2 N2 0 0 107 (xlv [some (.inr (.inr r)), some (.inr (.inr b)), some (.inr (.inr s)), some (.inl 0), some (.inl (acc.length : Int)), some (.inl (acc.length : Int))]) [] := fun I2 N2 pay hR2 hB2 hM2 hno hpay => by
        have hrd' := hrd
        unfold rdE at hrd'
        rw [if_neg hno] at hrd'
        refine V_run D [] 111 rfl ⟨hM2.1.1, trivial⟩ ?_
        rw [hM2.2.1.2.1]
        show V _ _ _ _ _ _ _ _ _ _ _ (Sum.inl co :: _)
        have good : ¬ (co = 0 ∧ xs.length > 4) → V Γ E (xQ Γ E (xCg z T (parsePost T I N r s xs)) 0 0) z T I2 N2 0 0 127 (xlv [some (.inr (.inr r)), some (.inr (.inr b)), some (.inr (.inr s)), some (.inl 0), some (.inl (acc.length : Int)), some (.inl (acc.length : Int))]) [] := fun hne => by
          rw [if_neg (by rw [← hg.2.1]; exact hne)] at hrd'
          refine V_run D [] 129 rfl trivial ?_
          refine V_iret D rfl rfl ⟨rfl, rfl, hR2, _, _, hM2, Or.inr ?_⟩
          rw [hrd']
          exact ⟨rfl, rfl, rfl, by rw [hpay, ← hg.1, ← hg.2.1, ← hg.2.2.1, ← hg.2.2.2]⟩
        refine V_ne D 127 rfl rfl (by omega) (fun q1 => good (fun h => q1 h.1)) (fun q1 => ?_)
        refine V_run D [] 119 rfl ⟨hbs.1, trivial⟩ ?_
        rw [hB2.2.2.2.1]
        refine V_ile D 127 rfl rfl (by omega) (by omega) (fun q2 => good (fun h => by omega)) (fun q2 => ?_)
        refine V_run D [] 129 rfl trivial ?_
        rw [if_pos (by rw [← hg.2.1]; omega)] at hrd'
        refine V_iret D rfl rfl ⟨rfl, rfl, hR2, _, _, hM2, Or.inl ?_⟩
        rw [hrd']
        exact ⟨by decide, rfl⟩
      refine V_ige D 107 rfl rfl (by omega) (by omega) (fun q1 => ?_) (fun q1 => ?_)
      · exact fin I1 _ [] hR' hB' hM' (by omega) (by unfold rdP; rw [if_neg (by omega)])
      · refine V_run D [] 98 rfl trivial ?_
        refine V_chV (av := [.inr (.inr b), .inr (.inr s)]) (st := []) D mwX4_parsePayload rfl lkX4_X4_parsePayload (s_parsePayload (p := p) hT hB' hb hM' hip (by omega) rfl) hT rfl ⟨Nat.le_refl _, Nat.le_refl _⟩ (fun rr I2 N2 hh => ?_)
        obtain ⟨hR2, rfl, hM2⟩ := hh
        have hR3 := hR'.trans hR2
        have hrb : r ≠ b := fun e => by have := hbs.1; rw [← e, hT] at this; cases this
        have hrb1 : r ≠ b + 1 := fun e => by have := hbs.2; rw [← e, hT] at this; cases this
        have hB2 : BAt T I2 N2 b room xs := hB'.kept (hR2.1 _ (by omega) (by omega)) (hR2.1 _ (by omega) (by omega)) (hR2.2 _ (by omega))
        refine V_ne D 107 rfl rfl (by split <;> omega) (fun q2 => ?_) (fun q2 => ?_)
        · have hc : 0 < (rdP xs p).length ∧ (rdP xs p).length ≤ 400 := by
            by_cases h : 0 < (rdP xs p).length ∧ (rdP xs p).length ≤ 400
            · exact h
            · rw [if_neg h] at q2; exact absurd rfl q2
          rw [if_pos hc.2] at hM2
          exact fin I2 N2 (rdP xs p) hR3 hB2 hM2 (by omega) rfl
        · have hc : ¬ (0 < (rdP xs p).length ∧ (rdP xs p).length ≤ 400) := by
            intro h
            rw [if_pos h] at q2
            omega
          refine V_run D [] 106 rfl trivial ?_
          refine V_iret D rfl rfl ⟨rfl, rfl, hR3, _, _, hM2, Or.inl ?_⟩
          rw [hrd]
          unfold rdE
          rw [if_pos (by omega)]
          exact ⟨by decide, rfl⟩
    refine V_run D [] 30 rfl ⟨hbs.1, trivial⟩ ?_
    rw [hB.2.2.2.1]
    refine V_ige D 79 rfl rfl (by omega) (by omega) (fun c1 => absurd c1 (by omega)) (fun c1 => ?_)
    refine V_run D [] 41 rfl ⟨hbs.1, hT, trivial⟩ ?_
    rw [hip, hB.2.2.2.1]
    refine V_ige D 79 rfl rfl (by omega) (by omega) (fun c2 => out (by omega)) (fun c2 => ?_)
    refine V_run D [] 49 rfl ⟨hT, trivial⟩ ?_
    rw [hip]
    refine V_askV (av := [.inl (p : Int)]) (st := []) D mwX0_at rfl lkX4_X0_at (s_at hB (by omega)) hB.1 rfl ⟨Nat.le_refl _, Nat.le_refl _⟩ ?_
    rw [bat_in (by omega)]
    have hx := h7 _ (getD_mem (xs := xs) (j := p) (by omega))
    refine V_run D [] 55 rfl trivial ?_
    refine V_ieq D 79 rfl rfl (by omega) (by omega) (fun c3 => out (by omega)) (fun c3 => ?_)
    refine V_run D [] 61 rfl trivial ?_
    have hpe : prun xs (k + 1) p num acc = match pstep xs p num with
        | none => none
        | some (num', fr, n) => prun xs k (fr + n) num' (acc ++ [(num', (xs.drop fr).take n)]) := by
      conv => lhs; unfold prun
      rw [if_pos (by omega)]
      rfl
    refine V_chV (av := [.inr (.inr b), .inr (.inr s)]) (st := []) D mwX4_parseOption rfl lkX4_X4_parseOption (s_parseOption (p := p) (num := num) hT hr hB hb hM hip (by omega) hin hnum (fun q hq => hle q (List.mem_of_mem_take hq))) hT rfl ⟨Nat.le_refl _, Nat.le_refl _⟩ (fun rr I2 N2 hh => ?_)
    obtain ⟨hR2, hh⟩ := hh
    have hR3 := hR.trans hR2
    have hrb : r ≠ b := fun e => by have := hbs.1; rw [← e, hT] at this; cases this
    have hrb1 : r ≠ b + 1 := fun e => by have := hbs.2; rw [← e, hT] at this; cases this
    have hB2 : BAt T I2 N2 b room xs := hB.kept (hR2.1 _ (by omega) (by omega)) (hR2.1 _ (by omega) (by omega)) (hR2.2 _ (by omega))
    cases hps : pstep xs p num with
    | none =>
      rw [hps] at hh hpe
      obtain ⟨rfl, hM2⟩ := hh
      refine V_ne D 70 rfl rfl (by omega) (fun q1 => absurd rfl q1) (fun q1 => ?_)
      refine V_run D [] 69 rfl trivial ?_
      refine V_iret D rfl rfl ⟨rfl, rfl, hR3, _, _, hM2, Or.inl ?_⟩
      rw [hpr, hpe] at hrd
      dsimp only at hrd
      rw [hrd]
      exact ⟨by decide, rfl⟩
    | some w =>
      obtain ⟨num', fr, n⟩ := w
      rw [hps] at hh hpe
      obtain ⟨rfl, i2p, i2n, lat', hM2⟩ := hh
      have hin2 := pstep_in h7 (by omega) hps
      refine V_ne D 70 rfl rfl (by omega) (fun q1 => ?_) (fun q1 => absurd q1 (by omega))
      refine V_run D [24] 24 rfl trivial ?_
      have el : (acc.length : Int) + 1 = ((acc ++ [(num', (xs.drop fr).take n)]).length : Int) := by simp
      rw [el]
      refine V_loc [some (.inr (.inr r)), some (.inr (.inr b)), some (.inr (.inr s)), some (.inl 0), some (.inl ((acc ++ [(num', (xs.drop fr).take n)]).length : Int)), some (.inl ((acc ++ [(num', (xs.drop fr).take n)]).length : Int))] rfl ?_
      dsimp only at hM2
      rw [otake20] at hM2
      refine l_parse D hT hr hb hbs hrd hg hco k (fr + n) num' _ I2 N2 lat' (by simp; omega) (by simp; omega) (by omega) (by rw [hpr, hpe]) (by omega) ?_ hR3 hB2 i2p i2n hM2
      intro q hq
      rcases List.mem_append.mp hq with h | h
      · have := hle q h; omega
      · rw [List.mem_singleton.mp h]; dsimp only; omega
theorem s_parse (hT : T r = some (.inr 4)) (hr : r < s ∨ s + 66 ≤ r) (hB : BAt T I N b room xs) (hb : b + 2 ≤ s ∨ s + 66 ≤ b) (h : MAt T I N s 20 g lat) :
    Spec mX4_parse 3 [.inr (.inr r), .inr (.inr b), .inr (.inr s)] z T I N 0 0 (xCg z T (parsePost T I N r s xs)) := by
  have h5 := hB.2.2.2.2.1
  have h6 := hB.2.2.2.2.2.1
  have h7 := hB.2.2.2.2.2.2.1
  refine Spec_of okX4_parse (by decide) (by decide) (Nat.le_of_ble_eq_true rfl) fun Γ E D => ?_
  refine V_run D [] 3 rfl trivial ?_
  refine V_chV (av := [.inr (.inr b), .inr (.inr s)]) (st := []) D mwX4_parseHead rfl lkX4_X4_parseHead (s_parseHead hT hr hB hb h) hT rfl ⟨Nat.le_refl _, Nat.le_refl _⟩ (fun rr I2 N2 hh => ?_)
  unfold headPost at hh
  have bad : ∀ f : Int, f < 0 → xIn f → rd xs = (f, 0, 0, 0, [], [], []) → (rr = some (.inl f) ∧ I2 = I ∧ N2 = N) → V Γ E (xQ Γ E (xCg z T (parsePost T I N r s xs)) 0 0) z T I2 N2 0 0 (3 + 3) (xent [.inr (.inr r), .inr (.inr b), .inr (.inr s)] 0) (rr.toList ++ []) := fun f hf hx hrd hh => by
    obtain ⟨rfl, rfl, rfl⟩ := hh
    refine V_run D [] 8 rfl trivial ?_
    refine V_ge D 13 rfl rfl hx (fun q1 => absurd q1 (by omega)) (fun q1 => ?_)
    refine V_run D [] 12 rfl trivial ?_
    refine V_iret D rfl rfl ⟨rfl, rfl, ⟨fun _ _ _ => rfl, fun _ _ => rfl⟩, _, _, h, Or.inl ?_⟩
    rw [hrd]
    exact ⟨hf, rfl⟩
  by_cases g1 : xs.length < 4
  · rw [if_pos g1] at hh
    exact bad (-1) (by omega) (by omega) (by unfold rd; rw [if_pos g1]) hh
  · rw [if_neg g1] at hh
    by_cases g2 : ¬ xs.getD 0 0 / 64 = 1
    · rw [if_pos g2] at hh
      exact bad (-2) (by omega) (by omega) (by unfold rd; rw [if_neg g1, if_pos g2]) hh
    · rw [if_neg g2] at hh
      by_cases g3 : xs.getD 0 0 % 16 > 8 ∨ 4 + xs.getD 0 0 % 16 > xs.length
      · rw [if_pos g3] at hh
        exact bad (-3) (by omega) (by omega) (by unfold rd; rw [if_neg g1, if_neg g2, if_pos g3]) hh
      · rw [if_neg g3] at hh
        obtain ⟨rfl, hR, hip, hM⟩ := hh
        have hrb : r ≠ b := fun e => by have := hB.1; rw [← e, hT] at this; cases this
        have hrb1 : r ≠ b + 1 := fun e => by have := hB.2.1; rw [← e, hT] at this; cases this
        refine V_run D [] 8 rfl trivial ?_
        refine V_ge D 13 rfl rfl (by omega) (fun q1 => ?_) (fun q1 => absurd q1 (by omega))
        refine V_run D [24] 24 rfl ⟨hT, trivial⟩ ?_
        refine V_loc [some (.inr (.inr r)), some (.inr (.inr b)), some (.inr (.inr s)), some (.inl 0), some (.inl ((([] : List Opt).length : Nat) : Int)), some (.inl ((([] : List Opt).length : Nat) : Int))] rfl ?_
        have i3 : ∀ a, a ≠ r → xup I2 r 1 0 a = I2 a := fun a ha => xup_ne ha
        have hx1 := h7 _ (getD_mem (xs := xs) (j := 1) (by omega))
        refine l_parse (p0 := 4 + (xs.getD 0 0 % 16).toNat) D hT hr hb ⟨hB.1, hB.2.1⟩ ?_ ⟨rfl, rfl, rfl, rfl⟩ (by omega) xs.length (4 + (xs.getD 0 0 % 16).toNat) 0 [] _ N2 none (by simp) (by simp) (by omega) rfl (by omega) (fun _ h => nomatch h) ⟨fun a h1 h2 => by rw [i3 a h1]; exact hR.1 a h1 h2, hR.2⟩ ?_ ?_ ?_ ?_
        · unfold rd
          rw [if_neg g1, if_neg g2, if_neg g3]
          rfl
        · exact hB.kept (by rw [i3 _ (by omega)]; exact hR.1 _ (by omega) (by omega)) (by rw [i3 _ (by omega)]; exact hR.1 _ (by omega) (by omega)) (hR.2 _ (by omega))
        · rw [xup_at]; unfold va_up; rw [if_neg (by omega)]; exact hip
        · rw [xup_at]; unfold va_up; rw [if_pos rfl]
        · exact hM.kept (fun a h1 h2 => ⟨i3 a (by omega), rfl⟩)
end XRd3
