theorem oref_fi {N : xN} {m : Nat} {os : List Opt} {n : Int} (h : fi n os < os.length) : oref N m os (fi n os : Nat) = N (m + 5) (fi n os) := by
  unfold oref; rw [if_pos (by omega), Int.toNat_natCast]
theorem oref_no {N : xN} {m : Nat} {os : List Opt} {n : Int} (h : ¬ fi n os < os.length) : oref N m os (fi n os : Nat) = 0 := by
  unfold oref; rw [if_neg (by omega)]
theorem set_last (os : List Opt) (q q' : Opt) : (os ++ [q]).set os.length q' = os ++ [q'] := by simp
def AnP (T : xY) (I : xI) (N : xN) (q : Nat) (r : Option xV) (a : Msg) : Option xV → xI → xN → Prop := fun rr I' N' => rr = r ∧ RCh (q + 84) (q + 96) I N I' N' ∧ ∃ lat, MAt T I' N' (q + 84) 2 a lat
def blL (x : Int) : Int := 16 * (2 ^ (x % 8).toNat : Nat)
def blT (x : Int) (l : Nat) : Int := 16 * (x / 16) + (if blL x < (l : Int) - x / 16 * blL x then 8 else 0) + x % 8
def blk (x : Int) (w : Res) : Int × List Opt × List Int :=
  if 0 < x / 16 ∧ (w.2.1.length : Int) - x / 16 * blL x ≤ 0 then (130, [], []) else
  (69, [(4, hib w.2.2 2), (23, hib (blT x w.2.1.length) (fwb (blT x w.2.1.length)))], (w.2.1.drop (x / 16 * blL x).toNat).take (if blL x < (w.2.1.length : Int) - x / 16 * blL x then blL x else (w.2.1.length : Int) - x / 16 * blL x).toNat)
def getA (os : List Opt) (w : Res) : Int × List Opt × List Int :=
  if kno os w.2.2 then (67, [(4, hib w.2.2 2)], []) else
  if fi 23 os < os.length then blk (wn (od os (fi 23 os)).2) w else
  if 64 < w.2.1.length then blk 2 w else (69, [(4, hib w.2.2 2)], w.2.1)
theorem blL_rng {x : Int} (h : x % 8 ≤ 6) : 16 ≤ blL x ∧ blL x ≤ 1024 := by
  unfold blL
  rcases (by omega : x % 8 = 0 ∨ x % 8 = 1 ∨ x % 8 = 2 ∨ x % 8 = 3 ∨ x % 8 = 4 ∨ x % 8 = 5 ∨ x % 8 = 6) with e | e | e | e | e | e | e <;> rw [e] <;> decide
theorem blL_shl {x : Int} (h : x % 8 ≤ 6) : zShl 16 (x % 8) = blL x := by
  unfold blL
  rcases (by omega : x % 8 = 0 ∨ x % 8 = 1 ∨ x % 8 = 2 ∨ x % 8 = 3 ∨ x % 8 = 4 ∨ x % 8 = 5 ∨ x % 8 = 6) with e | e | e | e | e | e | e <;> rw [e] <;> decide
theorem fwb_cases {x : Int} (h : 0 ≤ x) : (x = 0 ∧ fwb x = 0) ∨ (0 < x ∧ x < 256 ∧ fwb x = 1) ∨ (256 ≤ x ∧ x < 65536 ∧ fwb x = 2) ∨ (65536 ≤ x ∧ x < 16777216 ∧ fwb x = 3) ∨ (16777216 ≤ x ∧ fwb x = 4) := by
  unfold fwb
  split
  · omega
  · split
    · omega
    · split
      · omega
      · split <;> omega
section XSv3
variable {Γ : xG} {E : xE} {z : Nat} {T : xY} {I : xI} {N : xN} {q o m most : Nat} {n : Int} {v : List Int} {g : Msg} {lat : Option Nat} {x : Res}
theorem s_failsSome {t : Int} (h : MAt T I N m most g lat) (hr : ∀ q ∈ g.2.2.2.2.1, xIn q.1) (ho : 0 < o) (hx : T o = some (.inr 5)) (ht : I o 3 = t) (hti : xIn t) : Spec mX7_failsCondition 4 [.inr (.inr m), .inr (.inr o)] z T I N 0 0 (xSame z T I N (some (.inl (b01 (fails g.2.2.2.2.1 (some t)))))) := by
  have hT := h.1.1
  refine Spec_of okX7_failsCondition (by decide) (by decide) (Nat.le_of_ble_eq_true rfl) fun Γ E D => ?_
  have main : has 5 g.2.2.2.2.1 = false → V Γ E (xQ Γ E (xSame z T I N (some (.inl (b01 (fails g.2.2.2.2.1 (some t)))))) 0 0) z T I N 0 0 14 (xlv [some (.inr (.inr m)), some (.inr (.inr o))]) [] := fun h5 => by
    refine V_run D [] 16 rfl trivial ?_
    refine V_askV (av := [.inl 1]) (st := []) D mwX1_first rfl lkX7_X1_first (s_first h (by omega) hr) hT rfl ⟨Nat.le_refl _, Nat.le_refl _⟩ ?_
    by_cases c : fi 1 g.2.2.2.2.1 < g.2.2.2.2.1.length
    · have h1 : has 1 g.2.2.2.2.1 = true := has_fi.mpr c
      have := h.opt c
      rw [oref_fi c]
      refine V_nonnull D 24 rfl rfl (fun q1 => ?_) (fun q1 => absurd q1 (by omega))
      refine V_run D [] 25 rfl trivial ?_
      refine V_null D 39 rfl rfl (fun q2 => absurd q2 (by omega)) (fun q2 => ?_)
      refine V_run D [] 33 rfl ⟨hx, trivial⟩ ?_
      rw [ht]
      refine V_askS (av := [.inr (.inr m), .inl t]) (st := []) D mwX7_matches rfl lkX7_X7_matches (s_matches h hti hr) rfl ⟨Nat.le_refl _, Nat.le_refl _⟩ ?_
      refine V_ne D 43 rfl rfl (b01_in _) (fun q3 => ?_) (fun q3 => ?_)
      · have h4 : mtc g.2.2.2.2.1 t = true := by cases hh : mtc g.2.2.2.2.1 t; exact absurd (b01_0.mpr hh) q3; rfl
        refine V_run D [] 44 rfl trivial ?_
        exact V_zret D rfl rfl (Or.inl rfl) ⟨by simp [fails, h5, h1, h4, b01], rfl, rfl, rfl, rfl⟩
      · rw [b01_0] at q3
        refine V_run D [] 44 rfl trivial ?_
        exact V_zret D rfl rfl (Or.inr rfl) ⟨by simp [fails, h1, q3, b01], rfl, rfl, rfl, rfl⟩
    · have h1 : has 1 g.2.2.2.2.1 = false := by cases hh : has 1 g.2.2.2.2.1; rfl; exact absurd (has_fi.mp hh) c
      rw [oref_no c]
      refine V_nonnull D 24 rfl rfl (fun q1 => absurd q1 (by omega)) (fun q1 => ?_)
      refine V_run D [] 23 rfl trivial ?_
      exact V_zret D rfl rfl (Or.inl rfl) ⟨by simp [fails, h5, h1, b01], rfl, rfl, rfl, rfl⟩
  refine V_run D [] 1 rfl trivial ?_
  refine V_null D 14 rfl rfl (fun q2 => absurd q2 (by omega)) (fun q2 => ?_)
  refine V_run D [] 6 rfl trivial ?_
  refine V_askV (av := [.inl 5]) (st := []) D mwX1_first rfl lkX7_X1_first (s_first h (by omega) hr) hT rfl ⟨Nat.le_refl _, Nat.le_refl _⟩ ?_
  by_cases c : fi 5 g.2.2.2.2.1 < g.2.2.2.2.1.length
  · have h1 : has 5 g.2.2.2.2.1 = true := has_fi.mpr c
    have := h.opt c
    rw [oref_fi c]
    refine V_null D 14 rfl rfl (fun q1 => absurd q1 (by omega)) (fun q1 => ?_)
    refine V_run D [] 13 rfl trivial ?_
    exact V_zret D rfl rfl (Or.inr rfl) ⟨by simp [fails, h1, b01], rfl, rfl, rfl, rfl⟩
  · have h1 : has 5 g.2.2.2.2.1 = false := by cases hh : has 5 g.2.2.2.2.1; rfl; exact absurd (has_fi.mp hh) c
    rw [oref_no c]
    refine V_null D 14 rfl rfl (fun q1 => ?_) (fun q1 => absurd q1 (by omega))
    exact V_loc [some (.inr (.inr m)), some (.inr (.inr o))] rfl (main h1)
theorem s_failsNone (h : MAt T I N m most g lat) (hr : ∀ q ∈ g.2.2.2.2.1, xIn q.1) : Spec mX7_failsCondition 4 [.inr (.inr m), .inr (.inr 0)] z T I N 0 0 (xSame z T I N (some (.inl (b01 (fails g.2.2.2.2.1 none))))) := by
  have hT := h.1.1
  refine Spec_of okX7_failsCondition (by decide) (by decide) (Nat.le_of_ble_eq_true rfl) fun Γ E D => ?_
  refine V_run D [] 1 rfl trivial ?_
  refine V_null D 14 rfl rfl (fun q2 => ?_) (fun q2 => absurd q2 (by omega))
  refine V_run D [] 16 rfl trivial ?_
  refine V_askV (av := [.inl 1]) (st := []) D mwX1_first rfl lkX7_X1_first (s_first h (by omega) hr) hT rfl ⟨Nat.le_refl _, Nat.le_refl _⟩ ?_
  by_cases c : fi 1 g.2.2.2.2.1 < g.2.2.2.2.1.length
  · have h1 : has 1 g.2.2.2.2.1 = true := has_fi.mpr c
    have := h.opt c
    rw [oref_fi c]
    refine V_nonnull D 24 rfl rfl (fun q1 => ?_) (fun q1 => absurd q1 (by omega))
    refine V_run D [] 25 rfl trivial ?_
    refine V_null D 39 rfl rfl (fun q2 => ?_) (fun q2 => absurd q2 (by omega))
    refine V_run D [] 44 rfl trivial ?_
    exact V_zret D rfl rfl (Or.inr rfl) ⟨by simp [fails, h1, b01], rfl, rfl, rfl, rfl⟩
  · have h1 : has 1 g.2.2.2.2.1 = false := by cases hh : has 1 g.2.2.2.2.1; rfl; exact absurd (has_fi.mp hh) c
    rw [oref_no c]
    refine V_nonnull D 24 rfl rfl (fun q1 => absurd q1 (by omega)) (fun q1 => ?_)
    refine V_run D [] 23 rfl trivial ?_
    exact V_zret D rfl rfl (Or.inl rfl) ⟨by simp [fails, h1, b01], rfl, rfl, rfl, rfl⟩
theorem l_few {x : Int} (D : xD Γ E mX7_fewestBytes 0 0 0) (hx : 0 ≤ x ∧ x < 2147483648) : ∀ (d i : Nat), i + d = 4 → i ≤ fwb x →
    V Γ E (xQ Γ E (xSame z T I N (some (.inl (fwb x : Int)))) 0 0) z T I N 0 0 2 (xlv [some (.inl x), some (.inl (i : Int))]) []
  | 0, i, hi, hf => by
    have h4 := fwb_cases hx.1
    refine V_run D [] 4 rfl trivial ?_
    refine V_ige D 22 rfl rfl (by omega) (by omega) (fun q1 => ?_) (fun q1 => absurd q1 (by omega))
    refine V_run D [] 23 rfl trivial ?_
    exact V_iret D rfl rfl ⟨by rw [show i = fwb x by omega], rfl, rfl, rfl, rfl⟩
  | d + 1, i, hi, hf => by
    refine V_run D [] 4 rfl trivial ?_
    refine V_ige D 22 rfl rfl (by omega) (by omega) (fun q1 => absurd q1 (by omega)) (fun q1 => ?_)
    refine V_run D [] 13 rfl trivial ?_
    have e : (8 : Int) * (i : Int) = ((8 * i : Nat) : Int) := by omega
    rw [e, zUsh_nat hx (by omega)]
    have hb : 0 ≤ x / ((2 ^ (8 * i) : Nat) : Int) ∧ x / ((2 ^ (8 * i) : Nat) : Int) ≤ x := by
      rcases (by omega : i = 0 ∨ i = 1 ∨ i = 2 ∨ i = 3) with h | h | h | h <;> subst h <;> simp only [Nat.reduceMul, Nat.reducePow] <;> omega
    have hc : x / ((2 ^ (8 * i) : Nat) : Int) = 0 ↔ fwb x = i := by
      have h9 := fwb_cases hx.1
      rcases (by omega : i = 0 ∨ i = 1 ∨ i = 2 ∨ i = 3) with h | h | h | h <;> subst h <;> simp only [Nat.reduceMul, Nat.reducePow] <;> omega
    refine V_eq D 22 rfl rfl (by constructor <;> omega) (fun q2 => ?_) (fun q2 => ?_)
    · refine V_run D [] 23 rfl trivial ?_
      exact V_iret D rfl rfl ⟨by rw [hc.mp q2], rfl, rfl, rfl, rfl⟩
    · refine V_run D [2] 2 rfl trivial ?_
      refine V_loc [some (.inl x), some (.inl ((i + 1 : Nat) : Int))] rfl ?_
      exact l_few D hx d (i + 1) (by omega) (by have : ¬ fwb x = i := fun h => q2 (hc.mpr h); omega)
theorem s_fewest {x : Int} (hx : 0 ≤ x ∧ x < 2147483648) : Spec mX7_fewestBytes 0 [.inl x] z T I N 0 0 (xSame z T I N (some (.inl (fwb x : Int)))) := by
  refine Spec_of okX7_fewestBytes (by decide) (by decide) (Nat.le_of_ble_eq_true rfl) fun Γ E D => ?_
  refine V_run D [2] 2 rfl trivial ?_
  refine V_loc [some (.inl x), some (.inl ((0 : Nat) : Int))] rfl ?_
  exact l_few D hx 4 0 (by omega) (Nat.zero_le _)
theorem s_addNumber {k y : Int} {c : Nat} (hT : T q = some (.inr 7)) (hN : N q 2 = q + 84) (h : MAt T I N (q + 84) 2 g lat) (hl : g.2.2.2.2.1.length < 2) (hk : 0 ≤ k ∧ k ≤ 65535) (hle : ∀ w ∈ g.2.2.2.2.1, 0 ≤ w.1 ∧ w.1 ≤ k) (hc : c ≤ 4) :
    Spec mX7_addNumber 2 [.inr (.inr q), .inl k, .inl y, .inl (c : Int)] z T I N 0 0 (xCg z T (AnP T I N q none (g.1, g.2.1, g.2.2.1, g.2.2.2.1, g.2.2.2.2.1 ++ [(k, hib y c)], g.2.2.2.2.2))) := by
  have hm := h.1.1
  refine Spec_of okX7_addNumber (by decide) (by decide) (Nat.le_of_ble_eq_true rfl) fun Γ E D => ?_
  refine V_run D [] 5 rfl ⟨hT, trivial⟩ ?_
  rw [hN]
  refine V_chV (av := [.inl k]) (st := []) D mwX1_put rfl lkX7_X1_put (s_put h hl (by omega) (fun w hw => by have := hle w hw; omega)) hm rfl ⟨Nat.le_refl _, Nat.le_refl _⟩ (fun r I1 N1 P1 => ?_)
  obtain ⟨rfl, c1, m1⟩ := P1
  have ep : ipos k g.2.2.2.2.1 g.2.2.2.2.1.length = g.2.2.2.2.1.length := ipos_end (fun w hw => (hle w hw).2)
  rw [ep, inso_end] at m1
  rw [ep]
  have hlen : g.2.2.2.2.1.length < (g.2.2.2.2.1 ++ [(k, ([] : List Int))]).length := by simp
  obtain ⟨o1, o2, o3⟩ := m1.opt (j := g.2.2.2.2.1.length) hlen
  generalize ho : N1 (q + 84 + 5) g.2.2.2.2.1.length = o at o1 o2 o3
  obtain ⟨p1, p2, p3, p4⟩ := o1
  have e1 : (od (g.1, g.2.1, g.2.2.1, g.2.2.2.1, g.2.2.2.2.1 ++ [(k, ([] : List Int))], g.2.2.2.2.2).2.2.2.2.1 g.2.2.2.2.1.length) = (k, []) := od_last _ _
  rw [e1] at p4
  refine V_run D [] 12 rfl trivial ?_
  refine V_null D 25 rfl rfl (fun q1 => absurd q1 (by omega)) (fun q1 => ?_)
  refine V_run D [] 22 rfl ⟨p1, trivial⟩ ?_
  rw [p2]
  refine V_putB (av := [.inl y, .inl (c : Int)]) (st := []) D mwX0_addHighFirst rfl lkX7_X0_addHighFirst (s_addHigh p4 hc (by simp; omega)) p4.1 rfl ⟨Nat.le_refl _, Nat.le_refl _⟩ (fun I2 e2 d2 => ?_)
  have m2 := m1.setVal (p := g.2.2.2.2.1.length) hlen ho.symm e2 d2
  rw [e1] at m2
  dsimp only at m2
  rw [set_last, List.nil_append] at m2
  refine V_vret D rfl rfl ⟨rfl, rfl, rfl, fun a ha => ⟨?_, ?_⟩, _, m2⟩
  · rw [e2 a (by omega) (by omega)]; exact (c1 a (by omega)).1
  · exact (c1 a (by omega)).2
end XSv3
