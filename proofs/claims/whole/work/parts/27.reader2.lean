theorem ipos_end {n : Int} {os : List Opt} (h : ∀ q ∈ os, q.1 ≤ n) : ipos n os os.length = os.length := by
  rcases Nat.eq_zero_or_pos os.length with h0 | h0
  · rw [h0]; rfl
  · obtain ⟨k, hk⟩ : ∃ k, os.length = k + 1 := ⟨os.length - 1, by omega⟩
    rw [hk]
    unfold ipos
    rw [if_neg]
    have := h (od os k) (by rw [od_get (by omega)]; exact List.getElem_mem _)
    omega
theorem inso_end (q : Opt) (os : List Opt) : inso os.length q os = os ++ [q] := by unfold inso; simp
theorem od_last (os : List Opt) (q : Opt) : od (os ++ [q]) os.length = q := by unfold od; simp [List.getD_eq_getElem?_getD]
section XRd2
variable {Γ : xG} {E : xE} {z : Nat} {T : xY} {I : xI} {N : xN} {r b room s : Nat} {xs : List Int} {g : Msg} {lat : Option Nat}
def optPost (T : xY) (I : xI) (N : xN) (r s : Nat) (xs : List Int) (g : Msg) (lat : Option Nat) (o : Option (Int × Nat × Nat)) : Option xV → xI → xN → Prop := fun rr I' N' => R2 r s (s + 66) I N I' N' ∧ match o with
  | none => rr = some (.inl 0) ∧ MAt T I' N' s 20 g lat
  | some (num', fr, n) => rr = some (.inl 1) ∧ I' r 0 = ((fr + n : Nat) : Int) ∧ I' r 1 = num' ∧ ∃ lat', MAt T I' N' s 20 (g.1, g.2.1, g.2.2.1, g.2.2.2.1, if g.2.2.2.2.1.length < 20 then g.2.2.2.2.1 ++ [(num', (xs.drop fr).take n)] else g.2.2.2.2.1, g.2.2.2.2.2) lat'
set_option maxHeartbeats 1000000 in
theorem s_parseOption {p : Nat} {num : Int} (hT : T r = some (.inr 4)) (hr : r < s ∨ s + 66 ≤ r) (hB : BAt T I N b room xs) (hb : b + 2 ≤ s ∨ s + 66 ≤ b) (h : MAt T I N s 20 g lat) (hp : I r 0 = (p : Int)) (hpl : p < xs.length) (hn : I r 1 = num) (hnum : 0 ≤ num ∧ num ≤ 65535) (hle : ∀ q ∈ g.2.2.2.2.1, 0 ≤ q.1 ∧ q.1 ≤ num) :
    Spec mX4_parseOption 2 [.inr (.inr r), .inr (.inr b), .inr (.inr s)] z T I N 0 0 (xCg z T (optPost T I N r s xs g lat (pstep xs p num))) := by
  have h5 := hB.2.2.2.2.1
  have h6 := hB.2.2.2.2.2.1
  have h7 := hB.2.2.2.2.2.2.1
  have hrb : r ≠ b := fun e => by have := hB.1; rw [← e, hT] at this; cases this
  have hrb1 : r ≠ b + 1 := fun e => by have := hB.2.1; rw [← e, hT] at this; cases this
  have hx := h7 _ (getD_mem (xs := xs) (j := p) hpl)
  have kB : ∀ J : xI, (∀ a, a ≠ r → J a = I a) → BAt T J N b room xs := fun J hJ => hB.kept (hJ _ (by omega)) (hJ _ (by omega)) rfl
  have kM : ∀ J : xI, (∀ a, a ≠ r → J a = I a) → MAt T J N s 20 g lat := fun J hJ => h.kept (fun a h1 h2 => ⟨hJ a (by omega), rfl⟩)
  refine Spec_of okX4_parseOption (by decide) (by decide) (Nat.le_of_ble_eq_true rfl) fun Γ E D => ?_
  refine V_run D [] 5 rfl ⟨hT, trivial⟩ ?_
  rw [hp]
  refine V_askV (av := [.inl (p : Int)]) (st := []) D mwX0_at rfl lkX4_X0_at (s_at hB (by omega)) hB.1 rfl ⟨Nat.le_refl _, Nat.le_refl _⟩ ?_
  rw [bat_in hpl]
  generalize ha : xs.getD p 0 = a at hx ⊢
  refine V_run D [] 24 rfl ⟨hT, hT, trivial⟩ ?_
  have e4 : zShr a 4 = a / 16 := zShr_nat (k := 4) (by omega) (by omega)
  rw [hp, e4]
  generalize hI1 : xup I r 0 ((p : Int) + 1) = I1
  have i1 : ∀ a, a ≠ r → I1 a = I a := fun a h => by rw [← hI1, xup_ne h]
  have i1p : I1 r 0 = ((p + 1 : Nat) : Int) := by rw [← hI1, xup_at]; unfold va_up; rw [if_pos rfl]; omega
  have i1n : I1 r 1 = num := by rw [← hI1, xup_at]; unfold va_up; rw [if_neg (by omega)]; exact hn
  refine V_chV (av := [.inr (.inr b), .inl (a / 16)]) (st := []) D mwX4_told rfl lkX4_X4_told (s_told (p := p + 1) hT (kB I1 i1) i1p (by omega) (by omega)) hT rfl ⟨Nat.le_refl _, Nat.le_refl _⟩ (fun rr I2 N2 hh => ?_)
  obtain ⟨rfl, hh⟩ := hh
  have ps : pstep xs p num = match tdv xs (a / 16) (p + 1) with
      | none => none
      | some d => match tdv xs (a % 16) d.2 with
        | none => none
        | some n => pst2 xs num d.1 n := by unfold pstep; rw [ha]; rfl
  have e15 : zAnd a 15 = a % 16 := zAndM a 4 15 (by omega) (by decide)
  cases h1 : tdv xs (a / 16) (p + 1) with
  | none =>
    rw [h1] at hh ps
    obtain ⟨rfl, rfl⟩ := hh
    refine V_run D [] 35 rfl trivial ?_
    rw [e15]
    refine V_chV (av := [.inr (.inr b), .inl (a % 16)]) (st := []) D mwX4_told rfl lkX4_X4_told (s_told (p := p + 1) hT (kB I2 i1) i1p (by omega) (by omega)) hT rfl ⟨Nat.le_refl _, Nat.le_refl _⟩ (fun rr I3 N3 hh => ?_)
    obtain ⟨rfl, hh⟩ := hh
    have hi3 : (∀ q, q ≠ r → I3 q = I q) ∧ ∃ v : Int, rr = some (.inl v) := by
      cases h2 : tdv xs (a % 16) (p + 1) with
      | none => rw [h2] at hh; obtain ⟨rfl, rfl⟩ := hh; exact ⟨i1, _, rfl⟩
      | some q => obtain ⟨v, p'⟩ := q; rw [h2] at hh; obtain ⟨rfl, rfl⟩ := hh; exact ⟨fun q hq => by rw [xup_ne hq, i1 q hq], _, rfl⟩
    obtain ⟨i3, v, rfl⟩ := hi3
    refine V_run D [] 43 rfl trivial ?_
    refine V_ieq D 52 rfl rfl (by omega) (by omega) (fun c1 => ?_) (fun c1 => absurd rfl c1)
    refine V_run D [] 53 rfl trivial ?_
    refine V_zret D rfl rfl (Or.inl rfl) ⟨rfl, rfl, ⟨fun q q1 q2 => i3 q q1, fun q q2 => rfl⟩, ?_⟩
    rw [ps]
    exact ⟨rfl, kM I3 i3⟩
  | some d =>
    obtain ⟨d1, d2⟩ := d
    rw [h1] at hh ps
    obtain ⟨rfl, rfl⟩ := hh
    have hd := tdv_in h7 (by omega) (by omega) h1
    generalize hI2 : xup I1 r 0 (d2 : Int) = I2
    have i2 : ∀ a, a ≠ r → I2 a = I a := fun a h => by rw [← hI2, xup_ne h, i1 a h]
    have i2p : I2 r 0 = (d2 : Int) := by rw [← hI2, xup_at]; unfold va_up; rw [if_pos rfl]
    have i2n : I2 r 1 = num := by rw [← hI2, xup_at]; unfold va_up; rw [if_neg (by omega)]; exact i1n
    refine V_run D [] 35 rfl trivial ?_
    rw [e15]
    refine V_chV (av := [.inr (.inr b), .inl (a % 16)]) (st := []) D mwX4_told rfl lkX4_X4_told (s_told (p := d2) hT (kB I2 i2) i2p (by omega) (by omega)) hT rfl ⟨Nat.le_refl _, Nat.le_refl _⟩ (fun rr I3 N3 hh => ?_)
    obtain ⟨rfl, hh⟩ := hh
    dsimp only at ps
    cases h2 : tdv xs (a % 16) d2 with
    | none =>
      rw [h2] at hh ps
      obtain ⟨rfl, rfl⟩ := hh
      refine V_run D [] 43 rfl trivial ?_
      refine V_ieq D 52 rfl rfl (by omega) (by omega) (fun c1 => absurd c1 (by omega)) (fun c1 => ?_)
      refine V_run D [] 49 rfl trivial ?_
      refine V_ine D 54 rfl rfl (by omega) (by omega) (fun c2 => absurd rfl c2) (fun c2 => ?_)
      refine V_run D [] 53 rfl trivial ?_
      refine V_zret D rfl rfl (Or.inl rfl) ⟨rfl, rfl, ⟨fun q q1 q2 => i2 q q1, fun q q2 => rfl⟩, ?_⟩
      rw [ps]
      exact ⟨rfl, kM _ i2⟩
    | some e =>
      obtain ⟨n1, n2⟩ := e
      rw [h2] at hh ps
      dsimp only at ps
      obtain ⟨rfl, rfl⟩ := hh
      have he := tdv_in h7 (by omega) (by omega) h2
      generalize hI3 : xup I2 r 0 (n2 : Int) = I3
      have i3 : ∀ a, a ≠ r → I3 a = I a := fun a h => by rw [← hI3, xup_ne h, i2 a h]
      have i3p : I3 r 0 = (n2 : Int) := by rw [← hI3, xup_at]; unfold va_up; rw [if_pos rfl]
      have i3n : I3 r 1 = num := by rw [← hI3, xup_at]; unfold va_up; rw [if_neg (by omega)]; exact i2n
      refine V_run D [] 43 rfl trivial ?_
      refine V_ieq D 52 rfl rfl (by omega) (by omega) (fun c1 => absurd c1 (by omega)) (fun c1 => ?_)
      refine V_run D [] 49 rfl trivial ?_
      refine V_ine D 54 rfl rfl (by omega) (by omega) (fun c2 => ?_) (fun c2 => absurd c2 (by omega))
      refine V_run D [] 71 rfl ⟨hT, hT, hT, trivial⟩ ?_
      rw [i3n]
      generalize hI4 : xup I3 r 1 (num + d1) = I4
      have i4 : ∀ a, a ≠ r → I4 a = I a := fun a h => by rw [← hI4, xup_ne h, i3 a h]
      have i4p : I4 r 0 = (n2 : Int) := by rw [← hI4, xup_at]; unfold va_up; rw [if_neg (by omega)]; exact i3p
      have i4n : I4 r 1 = num + d1 := by rw [← hI4, xup_at]; unfold va_up; rw [if_pos rfl]
      have ib : I4 b 1 = (xs.length : Int) := by rw [i4 b (by omega)]; exact hB.2.2.2.1
      rw [i4n]
      have bad : pst2 xs num d1 (n1, n2) = none → ∀ lv, V Γ E (xQ Γ E (xCg z T (optPost T I N3 r s xs g lat (pstep xs p num))) 0 0) z T I4 N3 0 0 96 lv [] := fun hbad lv => by
        refine V_run D [] 97 rfl trivial ?_
        refine V_zret D rfl rfl (Or.inl rfl) ⟨rfl, rfl, ⟨fun q q1 q2 => i4 q q1, fun q q2 => rfl⟩, ?_⟩
        rw [ps, hbad]
        exact ⟨rfl, kM _ i4⟩
      refine V_igt D 96 rfl rfl (by omega) (by omega) (fun c3 => bad (by unfold pst2; rw [if_pos (by omega)]) _) (fun c3 => ?_)
      refine V_run D [] 79 rfl trivial ?_
      refine V_igt D 96 rfl rfl (by omega) (by omega) (fun c4 => bad (by unfold pst2; rw [if_pos (by omega)]) _) (fun c4 => ?_)
      refine V_run D [] 93 rfl ⟨hT, hB.1, trivial⟩ ?_
      rw [i4p, ib]
      refine V_ile D 98 rfl rfl (by omega) (by omega) (fun c5 => ?_) (fun c5 => bad (by unfold pst2; rw [if_pos (by dsimp only; omega)]) _)
      have hgood : pst2 xs num d1 (n1, n2) = some (num + d1, n2, n1.toNat) := by unfold pst2; rw [if_neg (by dsimp only; omega)]
      rw [hgood] at ps
      refine V_run D [] 103 rfl ⟨hT, trivial⟩ ?_
      rw [i4n]
      by_cases hc : g.2.2.2.2.1.length < 20
      · refine V_chV (av := [.inl (num + d1)]) (st := []) D mwX1_put rfl lkX4_X1_put (s_put (kM I4 i4) hc (by omega) (fun q hq => by have := hle q hq; constructor <;> omega)) h.1.1 rfl ⟨Nat.le_refl _, Nat.le_refl _⟩ (fun rr I5 N5 hh => ?_)
        obtain ⟨hrr, hch, hM5⟩ := hh
        have hip : ipos (num + d1) g.2.2.2.2.1 g.2.2.2.2.1.length = g.2.2.2.2.1.length := ipos_end (fun q hq => by have := hle q hq; omega)
        rw [hip, inso_end] at hM5
        rw [hip] at hrr
        subst hrr
        obtain ⟨⟨a1, a2, a3, a4, a5, a6, a7, a8⟩, ⟨b1, b2, b3⟩, c1', c2', ⟨f, f1, f2, f3, f4⟩, l1⟩ := id hM5
        obtain ⟨fo, eo⟩ := f1 g.2.2.2.2.1.length hc
        have hO := f4 g.2.2.2.2.1.length (by show _ < (g.2.2.2.2.1 ++ [(num + d1, [])]).length; simp)
        generalize hoo : N5 (s + 5) g.2.2.2.2.1.length = o at eo ⊢
        rw [← eo] at hO
        have hod : od (g.2.2.2.2.1 ++ [(num + d1, [])]) g.2.2.2.2.1.length = (num + d1, []) := od_last _ _
        have hO' : OAt T I5 N5 o (num + d1) [] := by
          have : OAt T I5 N5 o (od (g.2.2.2.2.1 ++ [(num + d1, [])]) g.2.2.2.2.1.length).1 (od (g.2.2.2.2.1 ++ [(num + d1, [])]) g.2.2.2.2.1.length).2 := hO
          rw [hod] at this; exact this
        obtain ⟨o1, o2, o3, o4⟩ := hO'
        have i5p : I5 r 0 = (n2 : Int) := by rw [(hch r (by omega)).1]; exact i4p
        have i5n : I5 r 1 = num + d1 := by rw [(hch r (by omega)).1]; exact i4n
        refine V_run D [] 110 rfl trivial ?_
        refine V_null D 128 rfl rfl (fun q1 => absurd q1 (by omega)) (fun q1 => ?_)
        refine V_run D [] 125 rfl ⟨hT, o1, trivial⟩ ?_
        rw [o2, i5p]
        have hB5 : BAt T I5 N5 b room xs := hB.kept (by rw [(hch b (by omega)).1, i4 b (by omega)]) (by rw [(hch (b + 1) (by omega)).1, i4 (b + 1) (by omega)]) ((hch b (by omega)).2)
        refine V_putB (av := [.inr (.inr b), .inl (n2 : Int), .inl n1]) (st := []) D mwX0_addPart rfl lkX4_X0_addPart (s_addPart o4 hB5 (by omega) (by omega) (by omega)) o4.1 rfl ⟨Nat.le_refl _, Nat.le_refl _⟩ (fun I6 e6 d6 => ?_)
        rw [if_pos (by simp; omega)] at d6
        have hM6 := hM5.setVal (p := g.2.2.2.2.1.length) (o := o) (v' := (xs.drop n2).take n1.toNat) (by show _ < (g.2.2.2.2.1 ++ [(num + d1, [])]).length; simp) hoo.symm e6 (by simpa using d6)
        have i6p : I6 r 0 = (n2 : Int) := by rw [e6 r (by omega) (by omega)]; exact i5p
        refine V_run D [] 140 rfl ⟨hT, hT, trivial⟩ ?_
        rw [i6p]
        refine V_zret D rfl rfl (Or.inr rfl) ⟨rfl, rfl, ⟨fun q q1 q2 => ?_, fun q q2 => (hch q (by omega)).2⟩, ?_⟩
        · rw [xup_ne q1, e6 q (by omega) (by omega), (hch q (by omega)).1, i4 q q1]
        · rw [ps]
          refine ⟨rfl, ?_, ?_, some g.2.2.2.2.1.length, ?_⟩
          · rw [xup_at]; unfold va_up; rw [if_pos rfl]; omega
          · rw [xup_at]; unfold va_up; rw [if_neg (by omega), e6 r (by omega) (by omega)]; exact i5n
          · rw [if_pos hc]
            have h9 := hM6.kept (I' := xup I6 r 0 ((n2 : Int) + n1)) (N' := N5) (fun q h1 h2 => ⟨xup_ne (by omega), rfl⟩)
            have e9 : (g.2.2.2.2.1 ++ [(num + d1, [])]).set g.2.2.2.2.1.length ((od (g.2.2.2.2.1 ++ [(num + d1, [])]) g.2.2.2.2.1.length).1, (xs.drop n2).take n1.toNat) = g.2.2.2.2.1 ++ [(num + d1, (xs.drop n2).take n1.toNat)] := by
              rw [hod, List.set_append_right _ _ (Nat.le_refl _)]; simp
            dsimp only at h9
            rw [e9] at h9
            exact h9
      · refine V_askV (av := [.inl (num + d1)]) (st := []) D mwX1_put rfl lkX4_X1_put (s_putFull (kM I4 i4) hc) h.1.1 rfl ⟨Nat.le_refl _, Nat.le_refl _⟩ ?_
        refine V_run D [] 110 rfl trivial ?_
        refine V_null D 128 rfl rfl (fun q1 => ?_) (fun q1 => absurd q1 (by omega))
        refine V_run D [] 140 rfl ⟨hT, hT, trivial⟩ ?_
        rw [i4p]
        refine V_zret D rfl rfl (Or.inr rfl) ⟨rfl, rfl, ⟨fun q q1 q2 => by rw [xup_ne q1, i4 q q1], fun q q2 => rfl⟩, ?_⟩
        rw [ps]
        refine ⟨rfl, ?_, ?_, lat, ?_⟩
        · rw [xup_at]; unfold va_up; rw [if_pos rfl]; omega
        · rw [xup_at]; unfold va_up; rw [if_neg (by omega)]; exact i4n
        · rw [if_neg hc]
          exact kM _ (fun q hq => by rw [xup_ne hq, i4 q hq])
end XRd2
