def pth (os : List Opt) : List (List Int) := (os.filter (fun q => q.1 == 11)).map (fun q => q.2)
theorem pth_snoc (os : List Opt) (q : Opt) : pth (os ++ [q]) = if q.1 = 11 then pth os ++ [q.2] else pth os := by
  unfold pth
  by_cases h : q.1 = 11
  · rw [if_pos h]; simp [h]
  · rw [if_neg h]; simp [h]
theorem pe_snoc (p : List (List Int)) (v : List Int) : pe (p ++ [v]) = pe p ++ (hib v.length 2 ++ v) := by unfold pe; simp
theorem pe_app (p p' : List (List Int)) : pe (p ++ p') = pe p ++ pe p' := by unfold pe; simp
theorem pth_app (os os' : List Opt) : pth (os ++ os') = pth os ++ pth os' := by unfold pth; simp
theorem pe_take_le (os : List Opt) (i : Nat) : (pe (pth (os.take i))).length ≤ (pe (pth os)).length := by
  have h : pe (pth os) = pe (pth (os.take i)) ++ pe (pth (os.drop i)) := by rw [← pe_app, ← pth_app, List.take_append_drop]
  rw [h, List.length_append]; omega
theorem pth_len_le (os : List Opt) : (pth os).length ≤ os.length := by unfold pth; rw [List.length_map]; exact List.length_filter_le _ _
def isT (v : List Int) (t : Int) : Bool := decide (v.length = 2 ∧ wfold v = t)
def mtc (os : List Opt) (t : Int) : Bool := os.any (fun q => q.1 == 1 && (q.2.length == 0 || isT q.2 t))
def kno (os : List Opt) (t : Int) : Bool := os.any (fun q => q.1 == 4 && isT q.2 t)
def has (n : Int) (os : List Opt) : Bool := os.any (fun q => q.1 == n)
theorem has_fi {n : Int} {os : List Opt} : has n os = true ↔ fi n os < os.length := by
  unfold has
  constructor
  · intro h
    have h1 := fi_le n os
    rcases Nat.lt_or_ge (fi n os) os.length with h2 | h2
    · exact h2
    · have h3 := fi_none (n := n) (os := os) (by omega)
      rw [List.any_eq_true] at h
      obtain ⟨q, hq, e⟩ := h
      exact absurd (by simpa using e) (h3 q hq)
  · intro h
    exact any_take h _ (by simpa using fi_at h)
def fails (os : List Opt) (x : Option Int) : Bool := match x with
  | some t => has 5 os || (has 1 os && !mtc os t)
  | none => has 1 os
theorem any_snoc (p : Opt → Bool) {os : List Opt} {i : Nat} (hi : i < os.length) (h : (os.take i).any p = false) (h' : p (od os i) = false) : (os.take (i + 1)).any p = false := by
  rw [otake_snoc hi, List.any_append, h]; simpa using h'
theorem zUsh_nat {x : Int} (hx : 0 ≤ x ∧ x < 2147483648) {k : Nat} (hk : k < 32) : zUsh x (k : Int) = x / (2 ^ k : Nat) := by
  obtain ⟨n, rfl⟩ := Int.eq_ofNat_of_zero_le hx.1
  unfold zUsh
  have e1 : Int32.ofInt (n : Int) = nI n := Int32.ofInt_eq_ofNat
  have e2 : Int32.ofInt (k : Int) = nI k := Int32.ofInt_eq_ofNat
  have hs : ∀ k : Nat, k < 32 → (((nI k).toUInt32 &&& Int32.toUInt32 31).toBitVec % 32).toNat = k := by decide +kernel
  rw [e1, e2, pk_ushrN (by omega) _ k (hs k hk), nI_toInt (Nat.lt_of_le_of_lt (Nat.div_le_self _ _) (by omega))]
  simp
def fwb (x : Int) : Nat := if x = 0 then 0 else if x < 256 then 1 else if x < 65536 then 2 else if x < 16777216 then 3 else 4
section XSv2
variable {Γ : xG} {E : xE} {z : Nat} {T : xY} {I : xI} {N : xN} {q o m most : Nat} {n : Int} {v : List Int} {g : Msg} {lat : Option Nat}
theorem l_takePath (D : xD Γ E mX7_takePath 3 0 0) (hT : T q = some (.inr 7)) (hN : N q 3 = q + 96) (hm : m + 66 ≤ q ∨ q + 98 ≤ m) (h : MAt T I N m 20 g lat) (hr : ∀ q ∈ g.2.2.2.2.1, xIn q.1) (hfit : (pe (pth g.2.2.2.2.1)).length ≤ 2040) : ∀ (d i : Nat) (I' : xI), i + d = g.2.2.2.2.1.length → (∀ a, a ≠ q → a ≠ q + 96 → a ≠ q + 97 → I' a = I a) → (∀ j, j ≠ 4 → I' q j = I q j) → I' q 4 = ((pth (g.2.2.2.2.1.take i)).length : Int) → BAt T I' N (q + 96) 2040 (pe (pth (g.2.2.2.2.1.take i))) →
    V Γ E (xQ Γ E (xCg z T fun r I' N' => r = none ∧ N' = N ∧ (∀ a, a ≠ q → a ≠ q + 96 → a ≠ q + 97 → I' a = I a) ∧ (∀ j, j ≠ 4 → I' q j = I q j) ∧ I' q 4 = ((pth g.2.2.2.2.1).length : Int) ∧ BAt T I' N (q + 96) 2040 (pe (pth g.2.2.2.2.1))) 0 0) z T I' N 0 0 14 (xlv [some (.inr (.inr q)), some (.inr (.inr m)), some (.inl (i : Int))]) []
  | 0, i, I', hi, f1, f2, f3, f4 => by
    have h' : MAt T I' N m 20 g lat := h.kept (fun a h1 h2 => ⟨f1 a (by omega) (by omega) (by omega), rfl⟩)
    obtain ⟨⟨a1, a2, a3, a4, a5, a6, a7, a8⟩, -⟩ := h'
    obtain rfl : i = g.2.2.2.2.1.length := by omega
    rw [List.take_length] at f3 f4
    refine V_run D [] 19 rfl ⟨a1, trivial⟩ ?_
    rw [a7]
    refine V_ige D 80 rfl rfl (by omega) (by omega) (fun q1 => ?_) (fun q1 => absurd (Int.le_refl _) q1)
    exact V_vret D rfl rfl ⟨rfl, rfl, rfl, rfl, f1, f2, f3, f4⟩
  | d + 1, i, I', hi, f1, f2, f3, f4 => by
    have h' : MAt T I' N m 20 g lat := h.kept (fun a h1 h2 => ⟨f1 a (by omega) (by omega) (by omega), rfl⟩)
    obtain ⟨⟨a1, a2, a3, a4, a5, a6, a7, a8⟩, -⟩ := id h'
    obtain ⟨o1, o2, o3⟩ := h'.opt (j := i) (by omega)
    have hx := hr (od g.2.2.2.2.1 i) (by rw [od_get (by omega)]; exact List.getElem_mem _)
    refine V_run D [] 19 rfl ⟨a1, trivial⟩ ?_
    rw [a7]
    refine V_ige D 80 rfl rfl (by omega) (by omega) (fun q1 => absurd q1 (by omega)) (fun q1 => ?_)
    have ep := pth_snoc (g.2.2.2.2.1.take i) (od g.2.2.2.2.1 i)
    rw [← otake_snoc (by omega)] at ep
    generalize ho : N (m + 5) i = o at o1 o2 o3
    obtain ⟨p1, p2, p3, p4⟩ := o1
    refine V_run D [] 35 rfl ⟨by rw [a4, Int.toNat_natCast, ho]; exact p1, ⟨3, by omega, 20, by rw [a4]; exact a5, by omega, by omega⟩, a1, trivial⟩ ?_
    rw [a4, Int.toNat_natCast, ho, p3]
    refine V_ine D 74 rfl rfl hx (by omega) (fun q2 => ?_) (fun q2 => ?_)
    · rw [if_neg q2] at ep
      refine V_run D [14] 14 rfl trivial ?_
      refine V_loc [some (.inr (.inr q)), some (.inr (.inr m)), some (.inl ((i + 1 : Nat) : Int))] rfl ?_
      exact l_takePath D hT hN hm h hr hfit d (i + 1) I' (by omega) f1 f2 (by rw [ep]; exact f3) (by rw [ep]; exact f4)
    · rw [if_pos q2] at ep
      have hle := pe_take_le g.2.2.2.2.1 (i + 1)
      rw [ep, pe_snoc, List.length_append, List.length_append, hib_len] at hle
      refine V_run D [] 50 rfl ⟨by rw [p2]; exact p4.1, p1, hT, trivial⟩ ?_
      rw [p2, hN, p4.2.2.2.1]
      refine V_putB (av := [.inl ((od g.2.2.2.2.1 i).2.length : Int), .inl ((2 : Nat) : Int)]) (st := []) D mwX0_addHighFirst rfl lkX7_X0_addHighFirst (s_addHigh f4 (by omega) (by omega)) f4.1 rfl ⟨Nat.le_refl _, Nat.le_refl _⟩ (fun I2 e2 d2 => ?_)
      have p4' : BAt T I2 N (o + 1) 400 (od g.2.2.2.2.1 i).2 := p4.kept (e2 _ (by omega) (by omega)) (e2 _ (by omega) (by omega)) rfl
      refine V_run D [] 61 rfl ⟨p1, hT, trivial⟩ ?_
      rw [p2, hN]
      refine V_putB (av := [.inr (.inr (o + 1))]) (st := []) D mwX0_addAll rfl lkX7_X0_addAll (s_addAll d2 p4' (by omega)) f4.1 rfl ⟨Nat.le_refl _, Nat.le_refl _⟩ (fun I3 e3 d3 => ?_)
      rw [if_pos (by rw [List.length_append, hib_len]; omega), List.append_assoc, ← pe_snoc, ← ep] at d3
      refine V_run D [14] 14 rfl ⟨hT, hT, trivial⟩ ?_
      refine V_loc [some (.inr (.inr q)), some (.inr (.inr m)), some (.inl ((i + 1 : Nat) : Int))] rfl ?_
      have e4 : I3 q = I' q := by rw [e3 _ (by omega) (by omega), e2 _ (by omega) (by omega)]
      refine l_takePath D hT hN hm h hr hfit d (i + 1) _ (by omega) (fun a g1 g2 g3 => ?_) (fun j hj => ?_) ?_ (d3.kept (xup_ne (by omega)) (xup_ne (by omega)) rfl)
      · rw [xup_ne g1, e3 _ g2 g3, e2 _ g2 g3]; exact f1 a g1 g2 g3
      · rw [xup_at, e4]; unfold va_up; rw [if_neg hj]; exact f2 j hj
      · rw [xup_at, e4]; unfold va_up; rw [if_pos rfl, f3, ep]; simp
theorem s_takePath (hT : T q = some (.inr 7)) (hN : N q 3 = q + 96) (hm : m + 66 ≤ q ∨ q + 98 ≤ m) (h : MAt T I N m 20 g lat) (hr : ∀ q ∈ g.2.2.2.2.1, xIn q.1) (hfit : (pe (pth g.2.2.2.2.1)).length ≤ 2040) (hB : BAt T I N (q + 96) 2040 v) : Spec mX7_takePath 3 [.inr (.inr q), .inr (.inr m)] z T I N 0 0
    (xCg z T fun r I' N' => r = none ∧ N' = N ∧ (∀ a, a ≠ q → a ≠ q + 96 → a ≠ q + 97 → I' a = I a) ∧ (∀ j, j ≠ 4 → I' q j = I q j) ∧ I' q 4 = ((pth g.2.2.2.2.1).length : Int) ∧ BAt T I' N (q + 96) 2040 (pe (pth g.2.2.2.2.1))) := by
  refine Spec_of okX7_takePath (by decide) (by decide) (Nat.le_of_ble_eq_true rfl) fun Γ E D => ?_
  refine V_run D [] 4 rfl ⟨hT, trivial⟩ ?_
  rw [hN]
  refine V_putB (av := []) (st := []) D mwX0_clear rfl lkX7_X0_clear (s_clear hB) hB.1 rfl ⟨Nat.le_refl _, Nat.le_refl _⟩ (fun I2 e2 d2 => ?_)
  refine V_run D [14] 14 rfl ⟨hT, trivial⟩ ?_
  refine V_loc [some (.inr (.inr q)), some (.inr (.inr m)), some (.inl ((0 : Nat) : Int))] rfl ?_
  refine l_takePath D hT hN hm h hr hfit _ 0 _ (Nat.zero_add _) (fun a g1 g2 g3 => ?_) (fun j hj => ?_) ?_ (d2.kept (xup_ne (by omega)) (xup_ne (by omega)) rfl)
  · rw [xup_ne g1, e2 _ g2 g3]
  · rw [xup_at, e2 _ (by omega) (by omega)]; unfold va_up; rw [if_neg hj]
  · rw [xup_at]; rfl
theorem l_matches {t : Int} (D : xD Γ E mX7_matches 3 0 0) (h : MAt T I N m most g lat) (ht : xIn t) (hr : ∀ q ∈ g.2.2.2.2.1, xIn q.1) : ∀ (d i : Nat), i + d = g.2.2.2.2.1.length → mtc (g.2.2.2.2.1.take i) t = false →
    V Γ E (xQ Γ E (xSame z T I N (some (.inl (b01 (mtc g.2.2.2.2.1 t))))) 0 0) z T I N 0 0 2 (xlv [some (.inr (.inr m)), some (.inl t), some (.inl (i : Int))]) []
  | 0, i, hi, hb => by
    obtain ⟨⟨a1, a2, a3, a4, a5, a6, a7, a8⟩, -⟩ := h
    obtain rfl : i = g.2.2.2.2.1.length := by omega
    rw [List.take_length] at hb
    refine V_run D [] 7 rfl ⟨a1, trivial⟩ ?_
    rw [a7]
    refine V_ige D 54 rfl rfl (by omega) (by omega) (fun q1 => ?_) (fun q1 => absurd (Int.le_refl _) q1)
    refine V_run D [] 55 rfl trivial ?_
    exact V_zret D rfl rfl (Or.inl rfl) ⟨by rw [hb]; rfl, rfl, rfl, rfl, rfl⟩
  | d + 1, i, hi, hb => by
    obtain ⟨⟨a1, a2, a3, a4, a5, a6, a7, a8⟩, -⟩ := id h
    obtain ⟨o1, -, -⟩ := h.opt (j := i) (by omega)
    have hx := hr (od g.2.2.2.2.1 i) (by rw [od_get (by omega)]; exact List.getElem_mem _)
    refine V_run D [] 7 rfl ⟨a1, trivial⟩ ?_
    rw [a7]
    refine V_ige D 54 rfl rfl (by omega) (by omega) (fun q1 => absurd q1 (by omega)) (fun q1 => ?_)
    generalize ho : N (m + 5) i = o at o1
    obtain ⟨p1, p2, p3, p4⟩ := o1
    have next : (od g.2.2.2.2.1 i).1 ≠ 1 ∨ ((od g.2.2.2.2.1 i).2.length ≠ 0 ∧ isT (od g.2.2.2.2.1 i).2 t = false) → V Γ E (xQ Γ E (xSame z T I N (some (.inl (b01 (mtc g.2.2.2.2.1 t))))) 0 0) z T I N 0 0 48 (xlv [some (.inr (.inr m)), some (.inl t), some (.inl (i : Int))]) [] := fun hc => by
      refine V_run D [2] 2 rfl trivial ?_
      refine V_loc [some (.inr (.inr m)), some (.inl t), some (.inl ((i + 1 : Nat) : Int))] rfl ?_
      refine l_matches D h ht hr d (i + 1) (by omega) (any_snoc _ (by omega) hb ?_)
      rcases hc with hc | hc
      · simp [hc]
      · simp [hc.2]; intro _ h9; exact absurd (by rw [h9]; rfl) hc.1
    have yes : (od g.2.2.2.2.1 i).1 = 1 → ((od g.2.2.2.2.1 i).2.length = 0 ∨ isT (od g.2.2.2.2.1 i).2 t = true) → b01 (mtc g.2.2.2.2.1 t) = 1 := fun h1 h2 => by
      unfold b01 mtc
      rw [any_take (i := i) (by omega)]
      · rfl
      · rcases h2 with h2 | h2
        · simp [h1, h2]
        · simp [h1, h2]
    refine V_run D [] 22 rfl ⟨by rw [a4, Int.toNat_natCast, ho]; exact p1, ⟨3, by omega, most, by rw [a4]; exact a5, by omega, by omega⟩, a1, trivial⟩ ?_
    rw [a4, Int.toNat_natCast, ho, p3]
    refine V_ine D 48 rfl rfl hx (by omega) (fun q2 => ?_) (fun q2 => ?_)
    · exact V_loc [some (.inr (.inr m)), some (.inl t), some (.inl (i : Int))] rfl (next (Or.inl q2))
    · refine V_run D [] 32 rfl ⟨by rw [p2]; exact p4.1, p1, trivial⟩ ?_
      rw [p2, p4.2.2.2.1]
      have hl := p4.2.2.2.2.1
      refine V_eq D 46 rfl rfl (by omega) (fun q3 => ?_) (fun q3 => ?_)
      · refine V_run D [] 47 rfl trivial ?_
        exact V_zret D rfl rfl (Or.inr rfl) ⟨by rw [yes q2 (Or.inl (by omega))], rfl, rfl, rfl, rfl⟩
      · refine V_run D [] 40 rfl ⟨p1, trivial⟩ ?_
        rw [p2]
        refine V_askV (av := [.inl t]) (st := []) D mwX0_isTag rfl lkX7_X0_isTag (s_isTag p4 ht) p4.1 rfl ⟨Nat.le_refl _, Nat.le_refl _⟩ ?_
        refine V_eq D 48 rfl rfl (by split <;> omega) (fun q4 => ?_) (fun q4 => ?_)
        · refine V_loc [some (.inr (.inr m)), some (.inl t), some (.inl (i : Int))] rfl (next (Or.inr ⟨by omega, ?_⟩))
          unfold isT
          by_cases h9 : (od g.2.2.2.2.1 i).2.length = 2 ∧ wfold (od g.2.2.2.2.1 i).2 = t
          · rw [if_pos h9] at q4; omega
          · simpa using h9
        · refine V_run D [] 47 rfl trivial ?_
          have h8 : isT (od g.2.2.2.2.1 i).2 t = true := by
            unfold isT
            by_cases h9 : (od g.2.2.2.2.1 i).2.length = 2 ∧ wfold (od g.2.2.2.2.1 i).2 = t
            · simpa using h9
            · rw [if_neg h9] at q4; omega
          exact V_zret D rfl rfl (Or.inr rfl) ⟨by rw [yes q2 (Or.inr h8)], rfl, rfl, rfl, rfl⟩
theorem s_matches {t : Int} (h : MAt T I N m most g lat) (ht : xIn t) (hr : ∀ q ∈ g.2.2.2.2.1, xIn q.1) : Spec mX7_matches 3 [.inr (.inr m), .inl t] z T I N 0 0 (xSame z T I N (some (.inl (b01 (mtc g.2.2.2.2.1 t))))) := by
  refine Spec_of okX7_matches (by decide) (by decide) (Nat.le_of_ble_eq_true rfl) fun Γ E D => ?_
  refine V_run D [2] 2 rfl trivial ?_
  refine V_loc [some (.inr (.inr m)), some (.inl t), some (.inl ((0 : Nat) : Int))] rfl ?_
  exact l_matches D h ht hr _ 0 (Nat.zero_add _) rfl
theorem l_knows {t : Int} (D : xD Γ E mX7_knowsTag 3 0 0) (h : MAt T I N m most g lat) (ht : xIn t) (hr : ∀ q ∈ g.2.2.2.2.1, xIn q.1) : ∀ (d i : Nat), i + d = g.2.2.2.2.1.length → kno (g.2.2.2.2.1.take i) t = false →
    V Γ E (xQ Γ E (xSame z T I N (some (.inl (b01 (kno g.2.2.2.2.1 t))))) 0 0) z T I N 0 0 2 (xlv [some (.inr (.inr m)), some (.inl t), some (.inl (i : Int))]) []
  | 0, i, hi, hb => by
    obtain ⟨⟨a1, a2, a3, a4, a5, a6, a7, a8⟩, -⟩ := h
    obtain rfl : i = g.2.2.2.2.1.length := by omega
    rw [List.take_length] at hb
    refine V_run D [] 7 rfl ⟨a1, trivial⟩ ?_
    rw [a7]
    refine V_ige D 44 rfl rfl (by omega) (by omega) (fun q1 => ?_) (fun q1 => absurd (Int.le_refl _) q1)
    refine V_run D [] 45 rfl trivial ?_
    exact V_zret D rfl rfl (Or.inl rfl) ⟨by rw [hb]; rfl, rfl, rfl, rfl, rfl⟩
  | d + 1, i, hi, hb => by
    obtain ⟨⟨a1, a2, a3, a4, a5, a6, a7, a8⟩, -⟩ := id h
    obtain ⟨o1, -, -⟩ := h.opt (j := i) (by omega)
    have hx := hr (od g.2.2.2.2.1 i) (by rw [od_get (by omega)]; exact List.getElem_mem _)
    refine V_run D [] 7 rfl ⟨a1, trivial⟩ ?_
    rw [a7]
    refine V_ige D 44 rfl rfl (by omega) (by omega) (fun q1 => absurd q1 (by omega)) (fun q1 => ?_)
    generalize ho : N (m + 5) i = o at o1
    obtain ⟨p1, p2, p3, p4⟩ := o1
    have next : (od g.2.2.2.2.1 i).1 ≠ 4 ∨ isT (od g.2.2.2.2.1 i).2 t = false → V Γ E (xQ Γ E (xSame z T I N (some (.inl (b01 (kno g.2.2.2.2.1 t))))) 0 0) z T I N 0 0 38 (xlv [some (.inr (.inr m)), some (.inl t), some (.inl (i : Int))]) [] := fun hc => by
      refine V_run D [2] 2 rfl trivial ?_
      refine V_loc [some (.inr (.inr m)), some (.inl t), some (.inl ((i + 1 : Nat) : Int))] rfl ?_
      refine l_knows D h ht hr d (i + 1) (by omega) (any_snoc _ (by omega) hb ?_)
      rcases hc with hc | hc
      · simp [hc]
      · simp [hc]
    refine V_run D [] 22 rfl ⟨by rw [a4, Int.toNat_natCast, ho]; exact p1, ⟨3, by omega, most, by rw [a4]; exact a5, by omega, by omega⟩, a1, trivial⟩ ?_
    rw [a4, Int.toNat_natCast, ho, p3]
    refine V_ine D 38 rfl rfl hx (by omega) (fun q2 => ?_) (fun q2 => ?_)
    · exact V_loc [some (.inr (.inr m)), some (.inl t), some (.inl (i : Int))] rfl (next (Or.inl q2))
    · refine V_run D [] 30 rfl ⟨p1, trivial⟩ ?_
      rw [p2]
      refine V_askV (av := [.inl t]) (st := []) D mwX0_isTag rfl lkX7_X0_isTag (s_isTag p4 ht) p4.1 rfl ⟨Nat.le_refl _, Nat.le_refl _⟩ ?_
      refine V_eq D 38 rfl rfl (by split <;> omega) (fun q4 => ?_) (fun q4 => ?_)
      · refine V_loc [some (.inr (.inr m)), some (.inl t), some (.inl (i : Int))] rfl (next (Or.inr ?_))
        unfold isT
        by_cases h9 : (od g.2.2.2.2.1 i).2.length = 2 ∧ wfold (od g.2.2.2.2.1 i).2 = t
        · rw [if_pos h9] at q4; omega
        · simpa using h9
      · refine V_run D [] 37 rfl trivial ?_
        refine V_zret D rfl rfl (Or.inr rfl) ⟨?_, rfl, rfl, rfl, rfl⟩
        have h9 : isT (od g.2.2.2.2.1 i).2 t = true := by
          unfold isT
          by_cases h9 : (od g.2.2.2.2.1 i).2.length = 2 ∧ wfold (od g.2.2.2.2.1 i).2 = t
          · simpa using h9
          · rw [if_neg h9] at q4; omega
        unfold b01 kno
        rw [any_take (i := i) (by omega)]
        · rfl
        · simp [q2, h9]
theorem s_knows {t : Int} (h : MAt T I N m most g lat) (ht : xIn t) (hr : ∀ q ∈ g.2.2.2.2.1, xIn q.1) : Spec mX7_knowsTag 3 [.inr (.inr m), .inl t] z T I N 0 0 (xSame z T I N (some (.inl (b01 (kno g.2.2.2.2.1 t))))) := by
  refine Spec_of okX7_knowsTag (by decide) (by decide) (Nat.le_of_ble_eq_true rfl) fun Γ E D => ?_
  refine V_run D [2] 2 rfl trivial ?_
  refine V_loc [some (.inr (.inr m)), some (.inl t), some (.inl ((0 : Nat) : Int))] rfl ?_
  exact l_knows D h ht hr _ 0 (Nat.zero_add _) rfl
end XSv2
