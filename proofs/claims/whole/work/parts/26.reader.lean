theorem zShr_nat {x : Int} (hx : 0 ≤ x ∧ x < 2147483648) {k : Nat} (hk : k < 32) : zShr x (k : Int) = x / (2 ^ k : Nat) := by
  obtain ⟨n, rfl⟩ := Int.eq_ofNat_of_zero_le hx.1
  unfold zShr
  have e1 : Int32.ofInt (n : Int) = nI n := Int32.ofInt_eq_ofNat
  have e2 : Int32.ofInt (k : Int) = nI k := Int32.ofInt_eq_ofNat
  have hs : ∀ k : Nat, k < 32 → ((nI k &&& 31).toBitVec.smod 32).toNat = k := by decide +kernel
  rw [e1, e2, pk_shrN (by omega) _ k (hs k hk), nI_toInt (Nat.lt_of_le_of_lt (Nat.div_le_self _ _) (by omega))]
  simp
section XRd
variable {Γ : xG} {E : xE} {z : Nat} {T : xY} {I : xI} {N : xN} {r b room s : Nat} {xs : List Int} {g : Msg} {lat : Option Nat}
def toldPost (I : xI) (N : xN) (r : Nat) (o : Option (Int × Nat)) : Option xV → xI → xN → Prop := fun rr I' N' => N' = N ∧ match o with
  | none => rr = some (.inl (-1)) ∧ I' = I
  | some (v, p') => rr = some (.inl v) ∧ I' = xup I r 0 (p' : Int)
theorem s_told {bits : Int} {p : Nat} (hT : T r = some (.inr 4)) (hB : BAt T I N b room xs) (hp : I r 0 = (p : Int)) (hpl : p ≤ xs.length) (hb : 0 ≤ bits ∧ bits ≤ 15) : Spec mX4_told 1 [.inr (.inr r), .inr (.inr b), .inl bits] z T I N 0 0 (xCg z T (toldPost I N r (tdv xs bits p))) := by
  have h5 := hB.2.2.2.2.1
  have h6 := hB.2.2.2.2.2.1
  have h7 := hB.2.2.2.2.2.2.1
  refine Spec_of okX4_told (by decide) (by decide) (Nat.le_of_ble_eq_true rfl) fun Γ E D => ?_
  refine V_run D [] 3 rfl trivial ?_
  refine V_ige D 8 rfl rfl (by omega) (by omega) (fun c1 => ?_) (fun c1 => ?_)
  · refine V_run D [] 15 rfl trivial ?_
    refine V_igt D 31 rfl rfl (by omega) (by omega) (fun c2 => ?_) (fun c2 => ?_)
    · refine V_run D [] 32 rfl trivial ?_
      refine V_iret D rfl rfl ⟨rfl, rfl, rfl, ?_⟩
      have e : tdv xs bits p = none := by unfold tdv; rw [if_neg (by omega), if_pos (by omega)]
      rw [e]; exact ⟨rfl, rfl⟩
    · refine V_run D [] 28 rfl ⟨hT, hB.1, trivial⟩ ?_
      rw [hp, hB.2.2.2.1]
      refine V_ile D 33 rfl rfl (by omega) (by omega) (fun c3 => ?_) (fun c3 => ?_)
      · refine V_run D [] 38 rfl ⟨hT, trivial⟩ ?_
        rw [hp]
        refine V_askV (av := [.inl (p : Int)]) (st := []) D mwX0_at rfl lkX4_X0_at (s_at hB (by omega)) hB.1 rfl ⟨Nat.le_refl _, Nat.le_refl _⟩ ?_
        refine V_run D [] 50 rfl ⟨hT, trivial⟩ ?_
        rw [hp]
        refine V_askV (av := [.inl ((p : Int) + 1)]) (st := []) D mwX0_at rfl lkX4_X0_at (s_at hB (by omega)) hB.1 rfl ⟨Nat.le_refl _, Nat.le_refl _⟩ ?_
        refine V_run D [] 67 rfl ⟨hT, hT, trivial⟩ ?_
        rw [hp]
        have b1 : bat xs (p : Int) = xs.getD p 0 := bat_in (by omega)
        refine V_ine D 78 rfl rfl (by omega) (by omega) (fun c4 => ?_) (fun c4 => ?_)
        · have b2 : bat xs ((p : Int) + 1) = xs.getD (p + 1) 0 := by have := bat_in (xs := xs) (i := p + 1) (by omega); rw [← this]; congr 1
          refine V_run D [] 91 rfl trivial ?_
          rw [b1, b2]
          refine V_iret D rfl rfl ⟨rfl, rfl, rfl, ?_⟩
          have e : tdv xs bits p = some (269 + 256 * xs.getD p 0 + xs.getD (p + 1) 0, p + 2) := by unfold tdv; rw [if_neg (by omega), if_neg (by omega), if_neg (by omega)]
          rw [e]
          exact ⟨rfl, by congr 1; omega⟩
        · refine V_run D [] 91 rfl trivial ?_
          rw [b1]
          refine V_iret D rfl rfl ⟨rfl, rfl, rfl, ?_⟩
          have e : tdv xs bits p = some (13 + xs.getD p 0, p + 1) := by unfold tdv; rw [if_neg (by omega), if_neg (by omega), if_pos (by omega)]
          rw [e]
          exact ⟨rfl, by congr 1; omega⟩
      · refine V_run D [] 32 rfl trivial ?_
        refine V_iret D rfl rfl ⟨rfl, rfl, rfl, ?_⟩
        have e : tdv xs bits p = none := by unfold tdv; rw [if_neg (by omega), if_pos (by omega)]
        rw [e]; exact ⟨rfl, rfl⟩
  · refine V_run D [] 7 rfl trivial ?_
    refine V_iret D rfl rfl ⟨rfl, rfl, rfl, ?_⟩
    have e : tdv xs bits p = some (bits, p) := by unfold tdv; rw [if_pos (by omega)]
    rw [e]
    refine ⟨rfl, ?_⟩
    funext a
    unfold xup va_up
    by_cases ha : a = r
    · rw [if_pos ha, ha]; funext j; by_cases hj : j = 0
      · rw [if_pos hj, hj, hp]
      · rw [if_neg hj]
    · rw [if_neg ha]
/-- the reader, and what it reads into, may have changed -/
def R2 (r lo hi : Nat) (I : xI) (N : xN) (I' : xI) (N' : xN) : Prop := (∀ a, a ≠ r → (a < lo ∨ hi ≤ a) → I' a = I a) ∧ ∀ a, (a < lo ∨ hi ≤ a) → N' a = N a
theorem R2.trans {r lo hi : Nat} {I I' I'' : xI} {N N' N'' : xN} (h : R2 r lo hi I N I' N') (h' : R2 r lo hi I' N' I'' N'') : R2 r lo hi I N I'' N'' :=
  ⟨fun a h1 h2 => (h'.1 a h1 h2).trans (h.1 a h1 h2), fun a h2 => (h'.2 a h2).trans (h.2 a h2)⟩
theorem R2.ofRCh {r lo hi lo' hi' : Nat} {I I' : xI} {N N' : xN} (h : RCh lo hi I N I' N') (h1 : lo' ≤ lo) (h2 : hi ≤ hi') : R2 r lo' hi' I N I' N' :=
  ⟨fun a _ h3 => (h a (by omega)).1, fun a h3 => (h a (by omega)).2⟩
def headPost (T : xY) (I : xI) (N : xN) (r s : Nat) (xs : List Int) : Option xV → xI → xN → Prop := fun rr I' N' =>
  if xs.length < 4 then rr = some (.inl (-1)) ∧ I' = I ∧ N' = N else if ¬ xs.getD 0 0 / 64 = 1 then rr = some (.inl (-2)) ∧ I' = I ∧ N' = N else
  if xs.getD 0 0 % 16 > 8 ∨ 4 + xs.getD 0 0 % 16 > xs.length then rr = some (.inl (-3)) ∧ I' = I ∧ N' = N else
  rr = some (.inl 0) ∧ R2 r s (s + 66) I N I' N' ∧ I' r 0 = ((4 + (xs.getD 0 0 % 16).toNat : Nat) : Int) ∧ MAt T I' N' s 20 (xs.getD 0 0 / 16 % 4, xs.getD 1 0, 256 * xs.getD 2 0 + xs.getD 3 0, (xs.drop 4).take (xs.getD 0 0 % 16).toNat, [], []) none
theorem s_parseHead (hT : T r = some (.inr 4)) (hr : r < s ∨ s + 66 ≤ r) (hB : BAt T I N b room xs) (hb : b + 2 ≤ s ∨ s + 66 ≤ b) (h : MAt T I N s 20 g lat) : Spec mX4_parseHead 2 [.inr (.inr r), .inr (.inr b), .inr (.inr s)] z T I N 0 0 (xCg z T (headPost T I N r s xs)) := by
  have h5 := hB.2.2.2.2.1
  have h6 := hB.2.2.2.2.2.1
  have h7 := hB.2.2.2.2.2.2.1
  have hrb : r ≠ b := fun e => by have := hB.1; rw [← e, hT] at this; cases this
  have hrb1 : r ≠ b + 1 := fun e => by have := hB.2.1; rw [← e, hT] at this; cases this
  refine Spec_of okX4_parseHead (by decide) (by decide) (Nat.le_of_ble_eq_true rfl) fun Γ E D => ?_
  refine V_run D [] 5 rfl ⟨hB.1, trivial⟩ ?_
  rw [hB.2.2.2.1]
  refine V_ige D 10 rfl rfl (by omega) (by omega) (fun c1 => ?_) (fun c1 => ?_)
  · refine V_run D [] 12 rfl trivial ?_
    refine V_askV (av := [.inl ((0 : Nat) : Int)]) (st := []) D mwX0_at rfl lkX4_X0_at (s_at hB (by omega)) hB.1 rfl ⟨Nat.le_refl _, Nat.le_refl _⟩ ?_
    rw [bat_in (by omega)]
    have hx := h7 _ (getD_mem (xs := xs) (j := 0) (by omega))
    generalize ha : xs.getD 0 0 = a at hx ⊢
    refine V_run D [] 21 rfl trivial ?_
    have e6 : zShr a 6 = a / 64 := zShr_nat (k := 6) (by omega) (by omega)
    rw [e6]
    refine V_ieq D 27 rfl rfl (by omega) (by omega) (fun c2 => ?_) (fun c2 => ?_)
    · refine V_run D [] 37 rfl trivial ?_
      have e15 : zAnd a 15 = a % 16 := zAndM a 4 15 (by omega) (by decide)
      rw [e15]
      have bad : a % 16 > 8 ∨ 4 + a % 16 > xs.length → V Γ E (xQ Γ E (xCg z T (headPost T I N r s xs)) 0 0) z T I N 0 0 51 (xset (xset (xent [.inr (.inr r), .inr (.inr b), .inr (.inr s)] 0) 3 (.inl a)) 4 (.inl (a % 16))) [] := fun hbad => by
        refine V_run D [] 53 rfl trivial ?_
        refine V_iret D rfl rfl ⟨rfl, rfl, ?_⟩
        unfold headPost
        rw [if_neg (by omega), ha, if_neg (by omega), if_pos hbad]
        exact ⟨rfl, rfl, rfl⟩
      refine V_igt D 51 rfl rfl (by omega) (by omega) (fun c3 => bad (Or.inl (by omega))) (fun c3 => ?_)
      refine V_run D [] 48 rfl ⟨hB.1, trivial⟩ ?_
      rw [hB.2.2.2.1]
      refine V_ile D 54 rfl rfl (by omega) (by omega) (fun c4 => ?_) (fun c4 => bad (Or.inr (by omega)))
      refine V_run D [] 62 rfl trivial ?_
      refine V_askV (av := [.inl ((1 : Nat) : Int)]) (st := [.inl (zAnd (zShr a 4) 3), .inr (.inr s)]) D mwX0_at rfl lkX4_X0_at (s_at hB (by omega)) hB.1 rfl ⟨Nat.le_refl _, Nat.le_refl _⟩ ?_
      refine V_run D [] 67 rfl trivial ?_
      refine V_askV (av := [.inl ((2 : Nat) : Int)]) (st := [.inl (bat xs ((1 : Nat) : Int)), .inl (zAnd (zShr a 4) 3), .inr (.inr s)]) D mwX0_at rfl lkX4_X0_at (s_at hB (by omega)) hB.1 rfl ⟨Nat.le_refl _, Nat.le_refl _⟩ ?_
      refine V_run D [] 76 rfl trivial ?_
      refine V_askV (av := [.inl ((3 : Nat) : Int)]) (st := [.inl (bat xs ((2 : Nat) : Int) * 256), .inl (bat xs ((1 : Nat) : Int)), .inl (zAnd (zShr a 4) 3), .inr (.inr s)]) D mwX0_at rfl lkX4_X0_at (s_at hB (by omega)) hB.1 rfl ⟨Nat.le_refl _, Nat.le_refl _⟩ ?_
      refine V_run D [] 80 rfl trivial ?_
      have e4 : zShr a 4 = a / 16 := zShr_nat (k := 4) (by omega) (by omega)
      have e3 : zAnd (a / 16) 3 = a / 16 % 4 := zAndM (a / 16) 2 3 (by omega) (by decide)
      rw [bat_in (by omega), bat_in (by omega), bat_in (by omega), e4, e3]
      refine V_chV (av := [.inl (a / 16 % 4), .inl (xs.getD 1 0), .inl (xs.getD 2 0 * 256 + xs.getD 3 0)]) (st := []) D mwX1_restart rfl lkX4_X1_restart (s_restart h) h.1.1 rfl ⟨Nat.le_refl _, Nat.le_refl _⟩ (fun rr I2 N2 hh => ?_)
      obtain ⟨rfl, hch, hM⟩ := hh
      have kN : ∀ a, (a < s ∨ s + 5 ≤ a) → N2 a = N a := fun a ha => (hch a ha).2
      have kI : ∀ a, (a < s ∨ s + 5 ≤ a) → I2 a = I a := fun a ha => (hch a ha).1
      have hB2 : BAt T I2 N2 b room xs := hB.kept (kI _ (by omega)) (kI _ (by omega)) (kN _ (by omega))
      obtain ⟨⟨a1, a2, -⟩, -, d1, -⟩ := id hM
      refine V_run D [] 91 rfl ⟨a1, trivial⟩ ?_
      rw [a2]
      refine V_putB (av := [.inr (.inr b), .inl 4, .inl (a % 16)]) (st := []) D mwX0_addPart rfl lkX4_X0_addPart (s_addPart d1 hB2 (by omega) (by omega) (by omega)) d1.1 rfl ⟨Nat.le_refl _, Nat.le_refl _⟩ (fun I3 f3 d3 => ?_)
      rw [if_pos (by simp; omega)] at d3
      have hM3 := hM.setTok f3 d3
      refine V_run D [] 103 rfl ⟨hT, trivial⟩ ?_
      refine V_iret D rfl rfl ⟨rfl, rfl, ?_⟩
      unfold headPost
      rw [if_neg (by omega), ha, if_neg (by omega), if_neg (by omega)]
      refine ⟨rfl, ⟨fun q h1 h2 => ?_, fun q h2 => kN q (by omega)⟩, ?_, ?_⟩
      · rw [xup_ne h1, f3 q (by omega) (by omega), kI q (by omega)]
      · rw [xup_at]; unfold va_up; rw [if_pos rfl]; omega
      · have h9 := hM3.kept (I' := xup I3 r 0 (4 + a % 16)) (N' := N2) (fun q h1 h2 => ⟨xup_ne (by omega), rfl⟩)
        have e9 : xs.getD 2 0 * 256 + xs.getD 3 0 = 256 * xs.getD 2 0 + xs.getD 3 0 := by omega
        rw [e9] at h9
        simpa using h9
    · refine V_run D [] 26 rfl trivial ?_
      refine V_iret D rfl rfl ⟨rfl, rfl, ?_⟩
      unfold headPost
      rw [if_neg (by omega), ha, if_pos c2]
      exact ⟨rfl, rfl, rfl⟩
  · refine V_run D [] 9 rfl trivial ?_
    refine V_iret D rfl rfl ⟨rfl, rfl, ?_⟩
    unfold headPost
    rw [if_pos (by omega)]
    exact ⟨rfl, rfl, rfl⟩
end XRd
