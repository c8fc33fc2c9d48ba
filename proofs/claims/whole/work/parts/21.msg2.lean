/-- the place of the first option with a number; how many there are, if none has it -/
def fi (n : Int) (os : List Opt) : Nat := os.findIdx (fun q => q.1 == n)
theorem fi_le (n : Int) (os : List Opt) : fi n os ≤ os.length := List.findIdx_le_length
theorem od_get {os : List Opt} {i : Nat} (h : i < os.length) : od os i = os[i] := by unfold od; rw [List.getD_eq_getElem?_getD, List.getElem?_eq_getElem h]; rfl
theorem fi_hit {n : Int} {os : List Opt} {i : Nat} (h : i ≤ fi n os) (hi : i < os.length) (he : (od os i).1 = n) : fi n os = i := by
  have h1 : ¬ i < fi n os := fun hlt => by
    have := List.not_of_lt_findIdx (p := fun q : Opt => q.1 == n) (xs := os) (i := i) hlt
    rw [od_get hi] at he
    simp [he] at this
  omega
theorem fi_next {n : Int} {os : List Opt} {i : Nat} (h : i ≤ fi n os) (hi : i < os.length) (he : ¬ (od os i).1 = n) : i + 1 ≤ fi n os := by
  rcases Nat.lt_or_ge i (fi n os) with h1 | h1
  · exact h1
  · have e : fi n os = i := by omega
    have hlt : fi n os < os.length := by omega
    have h2 := List.findIdx_getElem (p := fun q : Opt => q.1 == n) (xs := os) (w := hlt)
    have h3 : os[fi n os] = od os i := by rw [od_get hi]; congr 1
    have h4 : (os[fi n os].1 == n) = true := h2
    rw [h3] at h4
    exact absurd (by simpa using h4) he
theorem fi_at {n : Int} {os : List Opt} (h : fi n os < os.length) : (od os (fi n os)).1 = n := by
  have h2 := List.findIdx_getElem (p := fun q : Opt => q.1 == n) (xs := os) (w := h)
  have h4 : (os[fi n os].1 == n) = true := h2
  rw [od_get h]
  simpa using h4
theorem fi_none {n : Int} {os : List Opt} (h : fi n os = os.length) : ∀ q ∈ os, ¬ q.1 = n := by
  intro q hq he
  have := List.findIdx_lt_length_of_exists (p := fun q : Opt => q.1 == n) (xs := os) ⟨q, hq, by simp [he]⟩
  unfold fi at h
  omega
section XM2
variable {Γ : xG} {E : xE} {z : Nat} {T : xY} {I : xI} {N : xN} {m most lev : Nat} {g : Msg} {lat : Option Nat}
theorem l_first {n : Int} (D : xD Γ E mX1_first 0 0 0) (h : MAt T I N m most g lat) (hn : xIn n) (hr : ∀ q ∈ g.2.2.2.2.1, xIn q.1) : ∀ (d i : Nat), i + d = g.2.2.2.2.1.length → i ≤ fi n g.2.2.2.2.1 →
    V Γ E (xQ Γ E (xSame z T I N (some (.inr (.inr (oref N m g.2.2.2.2.1 (fi n g.2.2.2.2.1)))))) 0 0) z T I N 0 0 2 (xlv [some (.inr (.inr m)), some (.inl n), some (.inl (i : Int))]) []
  | 0, i, hi, hf => by
    obtain ⟨⟨a1, a2, a3, a4, a5, a6, a7, a8⟩, ⟨b1, b2, b3⟩, c1, c2, ⟨f, f1, f2, f3, f4⟩, l1⟩ := h
    refine V_run D [] 7 rfl ⟨a1, trivial⟩ ?_
    rw [a7]
    refine V_ige D 36 rfl rfl (by omega) (by omega) (fun q1 => ?_) (fun q1 => absurd q1 (by omega))
    refine V_run D [] 37 rfl trivial ?_
    have := fi_le n g.2.2.2.2.1
    exact V_aret D rfl rfl ⟨by unfold oref; rw [if_neg (by omega)], rfl, rfl, rfl, rfl⟩
  | d + 1, i, hi, hf => by
    have h0 := h
    obtain ⟨⟨a1, a2, a3, a4, a5, a6, a7, a8⟩, ⟨b1, b2, b3⟩, c1, c2, ⟨f, f1, f2, f3, f4⟩, l1⟩ := h
    refine V_run D [] 7 rfl ⟨a1, trivial⟩ ?_
    rw [a7]
    refine V_ige D 36 rfl rfl (by omega) (by omega) (fun q1 => absurd q1 (by omega)) (fun q1 => ?_)
    have e1 := (f1 i (by omega)).2
    obtain ⟨o1, o2, o3, o4⟩ := f4 i (by omega)
    refine V_run D [] 20 rfl ⟨by rw [a4, Int.toNat_natCast, e1]; exact o1, ⟨3, Nat.le_refl _, most, by rw [a4]; exact a5, by omega, by omega⟩, a1, trivial⟩ ?_
    rw [a4, Int.toNat_natCast, e1, o3]
    have hx := hr (od g.2.2.2.2.1 i) (by rw [od_get (by omega)]; exact List.getElem_mem _)
    refine V_ine D 30 rfl rfl hx hn (fun q2 => ?_) (fun q2 => ?_)
    · refine V_run D [2] 2 rfl trivial ?_
      refine V_loc [some (.inr (.inr m)), some (.inl n), some (.inl ((i + 1 : Nat) : Int))] rfl ?_
      exact l_first D h0 hn hr d (i + 1) (by omega) (fi_next hf (by omega) q2)
    · refine V_run D [] 29 rfl ⟨⟨3, Nat.le_refl _, most, by rw [a4]; exact a5, by omega, by omega⟩, a1, trivial⟩ ?_
      rw [a4, Int.toNat_natCast]
      have e2 := fi_hit hf (by omega) q2
      exact V_aret D rfl rfl ⟨by rw [e2]; unfold oref; rw [if_pos (by omega), Int.toNat_natCast], rfl, rfl, rfl, rfl⟩
theorem s_first {n : Int} (h : MAt T I N m most g lat) (hn : xIn n) (hr : ∀ q ∈ g.2.2.2.2.1, xIn q.1) : Spec mX1_first 0 [.inr (.inr m), .inl n] z T I N 0 0 (xSame z T I N (some (.inr (.inr (oref N m g.2.2.2.2.1 (fi n g.2.2.2.2.1)))))) := by
  refine Spec_of okX1_first (by decide) (by decide) (Nat.le_of_ble_eq_true rfl) fun Γ E D => ?_
  refine V_run D [2] 2 rfl trivial ?_
  refine V_loc [some (.inr (.inr m)), some (.inl n), some (.inl ((0 : Nat) : Int))] rfl ?_
  exact l_first D h hn hr _ 0 (Nat.zero_add _) (Nat.zero_le _)
/-- the row of options while a place is made -/
def shf (A : Nat → Nat) (p c : Nat) : Nat → Nat := fun j => if p < j ∧ j ≤ c then A (j - 1) else A j
theorem shf_0 (A : Nat → Nat) (c : Nat) : shf A c c = A := by funext j; unfold shf; rw [if_neg (by omega)]
theorem shf_step (A : Nat → Nat) {p c : Nat} (h : p < c) : va_up (shf A (p + 1) c) (p + 1) (shf A (p + 1) c p) = shf A p c := by
  funext j
  unfold va_up shf
  by_cases h1 : j = p + 1
  · rw [if_pos h1, if_neg (by omega), if_pos (by omega)]; congr 1; omega
  · rw [if_neg h1]
    by_cases h2 : p + 1 < j ∧ j ≤ c
    · rw [if_pos h2, if_pos (by omega)]
    · rw [if_neg h2, if_neg (by omega)]
theorem l_put {n : Int} (D : xD Γ E mX1_put 1 0 0) (h : MAt T I N m most g lat) (hlt : g.2.2.2.2.1.length < most) (hn : xIn n) (hr : ∀ q ∈ g.2.2.2.2.1, xIn q.1) {Q : State → Prop}
    (k : ∀ N', N' = va_up N (m + 5) (shf (N (m + 5)) (ipos n g.2.2.2.2.1 g.2.2.2.2.1.length) g.2.2.2.2.1.length) → V Γ E Q z T I N' 0 0 68 (xlv [some (.inr (.inr m)), some (.inl n), some (.inr (.inr (N (m + 5) g.2.2.2.2.1.length))), some (.inl ((ipos n g.2.2.2.2.1 g.2.2.2.2.1.length : Nat) : Int))]) []) :
    ∀ (p : Nat) (N' : xN), p ≤ g.2.2.2.2.1.length → ipos n g.2.2.2.2.1 g.2.2.2.2.1.length = ipos n g.2.2.2.2.1 p → N' = va_up N (m + 5) (shf (N (m + 5)) p g.2.2.2.2.1.length) →
      V Γ E Q z T I N' 0 0 29 (xlv [some (.inr (.inr m)), some (.inl n), some (.inr (.inr (N (m + 5) g.2.2.2.2.1.length))), some (.inl (p : Int))]) []
  | 0, N', hp, he, hN' => by
    refine V_run D [] 30 rfl trivial ?_
    refine V_le D 68 rfl rfl (by omega) (fun q1 => ?_) (fun q1 => absurd q1 (by omega))
    have e0 : ipos n g.2.2.2.2.1 g.2.2.2.2.1.length = 0 := he
    have hk := k N' (by rw [e0]; exact hN')
    rw [e0] at hk
    exact hk
  | p + 1, N', hp, he, hN' => by
    have h0 := h
    obtain ⟨⟨a1, a2, a3, a4, a5, a6, a7, a8⟩, ⟨b1, b2, b3⟩, c1, c2, ⟨f, f1, f2, f3, f4⟩, l1⟩ := h
    have n5 : N' (m + 5) = shf (N (m + 5)) (p + 1) g.2.2.2.2.1.length := by rw [hN']; unfold va_up; rw [if_pos rfl]
    have nm : ∀ a, a ≠ m + 5 → N' a = N a := fun a ha => by rw [hN']; unfold va_up; rw [if_neg ha]
    have a4' : N' m 2 = m + 5 := by rw [nm m (by omega)]; exact a4
    have np : N' (m + 5) p = N (m + 5) p := by rw [n5]; unfold shf; rw [if_neg (by omega)]
    have e1 := (f1 p (by omega)).2
    obtain ⟨o1, o2, o3, o4⟩ := f4 p (by omega)
    refine V_run D [] 30 rfl trivial ?_
    refine V_le D 68 rfl rfl (by omega) (fun q1 => absurd q1 (by omega)) (fun q1 => ?_)
    have ep : (((p + 1 : Nat) : Int) - 1).toNat = p := by omega
    refine V_run D [] 45 rfl ⟨by rw [a4', ep, np, e1]; exact o1, ⟨3, Nat.le_refl _, most, by rw [a4']; exact a5, by omega, by omega⟩, a1, trivial⟩ ?_
    rw [a4', ep, np, e1, o3]
    have hx := hr (od g.2.2.2.2.1 p) (by rw [od_get (by omega)]; exact List.getElem_mem _)
    refine V_ile D 68 rfl rfl hx hn (fun q2 => ?_) (fun q2 => ?_)
    · have e0 : ipos n g.2.2.2.2.1 g.2.2.2.2.1.length = p + 1 := by rw [he]; unfold ipos; rw [if_neg (by omega)]
      have hk := k N' (by rw [e0]; exact hN')
      rw [e0] at hk
      exact hk
    · have hT2 : T (N' (m + 5) p) = some (.inr 2) := by rw [np, e1]; exact o1
      refine V_run D [29] 29 rfl ⟨⟨3, Nat.le_refl _, ⟨most, by rw [a4']; exact a5, by omega, by omega⟩, by rw [a4', ep]; exact hT2⟩, ⟨3, Nat.le_refl _, most, by rw [a4']; exact a5, by omega, by omega⟩, a1, a1, trivial⟩ ?_
      rw [a4', ep]
      have e4 : ((p + 1 : Nat) : Int) + (-1) = (p : Int) := by omega
      rw [e4]
      refine V_loc [some (.inr (.inr m)), some (.inl n), some (.inr (.inr (N (m + 5) g.2.2.2.2.1.length))), some (.inl (p : Int))] rfl ?_
      refine l_put D h0 hlt hn hr k p _ (by omega) ?_ ?_
      · rw [he]; conv => lhs; unfold ipos
        rw [if_pos (by omega)]
      · unfold xup
        rw [Int.toNat_natCast, n5, shf_step _ (by omega), hN']
        funext a
        unfold va_up
        by_cases ha : a = m + 5
        · rw [if_pos ha, if_pos ha]
        · rw [if_neg ha, if_neg ha, if_neg ha]
end XM2
