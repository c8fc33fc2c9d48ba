/-! CoapDesk$Sent, CoapDesk$Peer: what was sent for the latest eight -/
def SnAt (T : xY) (I : xI) (N : xN) (q : Nat) (id : Int) (v : List Int) : Prop := T q = some (.inr 6) ∧ N q 0 = q + 1 ∧ I q 1 = id ∧ BAt T I N (q + 1) 421 v
def PAt (T : xY) (I : xI) (N : xN) (q : Nat) (ring : List Opt) (old : Nat) : Prop :=
  T q = some (.inr 3) ∧ N q 0 = q + 1 ∧ T (q + 1) = some (.inl (5, 8)) ∧ I q 1 = (old : Int) ∧ old < 8 ∧ ring.length = 8 ∧ (∀ k, k < 8 → N (q + 1) k = q + 2 + 3 * k) ∧ ∀ k, k < 8 → SnAt T I N (q + 2 + 3 * k) (od ring k).1 (od ring k).2
theorem SnAt.kept {T : xY} {I I' : xI} {N N' : xN} {o : Nat} {n : Int} {v : List Int} (h : SnAt T I N o n v) (hk : ∀ a, o ≤ a → a < o + 3 → I' a = I a ∧ N' a = N a) : SnAt T I' N' o n v := by
  obtain ⟨h1, h2, h3, h4⟩ := h
  refine ⟨h1, ?_, ?_, h4.kept (hk _ (by omega) (by omega)).1 (hk _ (by omega) (by omega)).1 (hk _ (by omega) (by omega)).2⟩
  · rw [(hk o (by omega) (by omega)).2]; exact h2
  · rw [(hk o (by omega) (by omega)).1]; exact h3
theorem PAt.kept {T : xY} {I I' : xI} {N N' : xN} {q : Nat} {ring : List Opt} {old : Nat} (h : PAt T I N q ring old) (hk : ∀ a, q ≤ a → a < q + 26 → I' a = I a ∧ N' a = N a) : PAt T I' N' q ring old := by
  obtain ⟨a1, a2, a3, a4, a5, a6, a7, a8⟩ := h
  refine ⟨a1, by rw [(hk q (by omega) (by omega)).2]; exact a2, a3, by rw [(hk q (by omega) (by omega)).1]; exact a4, a5, a6, fun k h => by rw [(hk (q + 1) (by omega) (by omega)).2]; exact a7 k h, fun k h => (a8 k h).kept (fun a h1 h2 => hk a (by omega) (by omega))⟩
theorem od_set {os : List Opt} {p : Nat} (hp : p < os.length) (v : Opt) (j : Nat) : od (os.set p v) j = if j = p then v else od os j := by
  unfold od
  rw [List.getD_eq_getElem?_getD, List.getD_eq_getElem?_getD, List.getElem?_set]
  by_cases h : p = j
  · rw [if_pos h, if_pos h.symm, if_pos (by omega)]; rfl
  · rw [if_neg h, if_neg (fun q => h q.symm)]
theorem PAt.setBytes {T : xY} {I I' : xI} {N : xN} {q : Nat} {ring : List Opt} {old : Nat} (h : PAt T I N q ring old) {k : Nat} {v' : List Int} (hk : k < 8) (hfr : ∀ a, a ≠ q + 2 + 3 * k + 1 → a ≠ q + 2 + 3 * k + 2 → I' a = I a) (hB : BAt T I' N (q + 2 + 3 * k + 1) 421 v') : PAt T I' N q (ring.set k ((od ring k).1, v')) old := by
  obtain ⟨a1, a2, a3, a4, a5, a6, a7, a8⟩ := h
  refine ⟨a1, a2, a3, by rw [hfr q (by omega) (by omega)]; exact a4, a5, by simpa using a6, a7, fun j hj => ?_⟩
  rw [od_set (by omega)]
  by_cases h : j = k
  · rw [if_pos h, h]
    obtain ⟨s1, s2, s3, s4⟩ := a8 k hk
    exact ⟨s1, s2, by rw [hfr _ (by omega) (by omega)]; exact s3, hB⟩
  · rw [if_neg h]
    exact (a8 j hj).kept (fun a h1 h2 => ⟨hfr a (by omega) (by omega), rfl⟩)
section XP
variable {Γ : xG} {E : xE} {z : Nat} {T : xY} {I : xI} {N : xN} {q old : Nat} {ring : List Opt}
def pref (q : Nat) (ring : List Opt) (id : Int) : Nat := if fi id ring < 8 then q + 2 + 3 * fi id ring else 0
theorem l_pfind {id : Int} (D : xD Γ E mX3_find 0 0 0) (h : PAt T I N q ring old) (hid : xIn id) (hr : ∀ w ∈ ring, xIn w.1) : ∀ (d i : Nat), i + d = 8 → i ≤ fi id ring →
    V Γ E (xQ Γ E (xSame z T I N (some (.inr (.inr (pref q ring id))))) 0 0) z T I N 0 0 2 (xlv [some (.inr (.inr q)), some (.inl id), some (.inl (i : Int))]) []
  | 0, i, hi, hf => by
    refine V_run D [] 5 rfl trivial ?_
    refine V_ige D 34 rfl rfl (by omega) (by omega) (fun q1 => ?_) (fun q1 => absurd q1 (by omega))
    refine V_run D [] 35 rfl trivial ?_
    exact V_aret D rfl rfl ⟨by unfold pref; rw [if_neg (by omega)], rfl, rfl, rfl, rfl⟩
  | d + 1, i, hi, hf => by
    obtain ⟨a1, a2, a3, a4, a5, a6, a7, a8⟩ := _root_.id h
    refine V_run D [] 5 rfl trivial ?_
    refine V_ige D 34 rfl rfl (by omega) (by omega) (fun q1 => absurd q1 (by omega)) (fun q1 => ?_)
    obtain ⟨s1, s2, s3, s4⟩ := a8 i (by omega)
    have e1 := a7 i (by omega)
    refine V_run D [] 18 rfl ⟨by rw [a2, Int.toNat_natCast, e1]; exact s1, ⟨5, by omega, 8, by rw [a2]; exact a3, by omega, by omega⟩, a1, trivial⟩ ?_
    rw [a2, Int.toNat_natCast, e1, s3]
    have hx := hr (od ring i) (by rw [od_get (by omega)]; exact List.getElem_mem _)
    refine V_ine D 28 rfl rfl hx hid (fun q2 => ?_) (fun q2 => ?_)
    · refine V_run D [2] 2 rfl trivial ?_
      refine V_loc [some (.inr (.inr q)), some (.inl id), some (.inl ((i + 1 : Nat) : Int))] rfl ?_
      exact l_pfind D h hid hr d (i + 1) (by omega) (fi_next hf (by omega) q2)
    · refine V_run D [] 27 rfl ⟨⟨5, by omega, 8, by rw [a2]; exact a3, by omega, by omega⟩, a1, trivial⟩ ?_
      rw [a2, Int.toNat_natCast, e1]
      have e2 := fi_hit hf (by omega) q2
      exact V_aret D rfl rfl ⟨by unfold pref; rw [e2, if_pos (by omega)], rfl, rfl, rfl, rfl⟩
theorem s_pfind {id : Int} (h : PAt T I N q ring old) (hid : xIn id) (hr : ∀ w ∈ ring, xIn w.1) : Spec mX3_find 0 [.inr (.inr q), .inl id] z T I N 0 0 (xSame z T I N (some (.inr (.inr (pref q ring id))))) := by
  refine Spec_of okX3_find (by decide) (by decide) (Nat.le_of_ble_eq_true rfl) fun Γ E D => ?_
  refine V_run D [2] 2 rfl trivial ?_
  refine V_loc [some (.inr (.inr q)), some (.inl id), some (.inl ((0 : Nat) : Int))] rfl ?_
  exact l_pfind D h hid hr 8 0 (by omega) (Nat.zero_le _)
theorem s_remember {id : Int} (h : PAt T I N q ring old) : Spec mX3_remember 1 [.inr (.inr q), .inl id] z T I N 0 0
    (xCg z T fun r I' N' => r = some (.inr (.inr (q + 2 + 3 * old))) ∧ RCh q (q + 26) I N I' N' ∧ PAt T I' N' q (ring.set old (id, [])) ((old + 1) % 8)) := by
  obtain ⟨a1, a2, a3, a4, a5, a6, a7, a8⟩ := _root_.id h
  obtain ⟨s1, s2, s3, s4⟩ := a8 old a5
  have e1 := a7 old a5
  refine Spec_of okX3_remember (by decide) (by decide) (Nat.le_of_ble_eq_true rfl) fun Γ E D => ?_
  have ar : ∃ k, 3 ≤ k ∧ xAr T (N q 0) k (I q 1) := ⟨5, by omega, 8, by rw [a2]; exact a3, by rw [a4]; omega, by rw [a4]; omega⟩
  have to : T (N (N q 0) (I q 1).toNat) = some (.inr 6) := by rw [a2, a4, Int.toNat_natCast, e1]; exact s1
  refine V_run D [] 32 rfl ⟨to, to, a1, a1, ar, a1, a1, trivial⟩ ?_
  rw [a4, a2, Int.toNat_natCast, e1, s2]
  have e7 : zAnd ((old : Int) + 1) 7 = (((old + 1) % 8 : Nat) : Int) := by rw [zAndM _ 3 7 (by omega) (by decide)]; omega
  rw [e7]
  generalize hI1 : xup (xup I q 1 (((old + 1) % 8 : Nat) : Int)) (q + 2 + 3 * old) 1 id = I1
  have i1 : ∀ a, a ≠ q → a ≠ q + 2 + 3 * old → I1 a = I a := fun a h1 h2 => by rw [← hI1, xup_ne h2, xup_ne h1]
  have s4' : BAt T I1 N (q + 2 + 3 * old + 1) 421 (od ring old).2 := s4.kept (i1 _ (by omega) (by omega)) (i1 _ (by omega) (by omega)) rfl
  refine V_putB (av := []) (st := []) D mwX0_clear rfl lkX3_X0_clear (s_clear s4') s4.1 rfl ⟨Nat.le_refl _, Nat.le_refl _⟩ (fun I2 e2 d1 => ?_)
  refine V_run D [] 36 rfl trivial ?_
  refine V_aret D rfl rfl ⟨rfl, rfl, rfl, fun a ha => ⟨by rw [e2 a (by omega) (by omega), i1 a (by omega) (by omega)], rfl⟩, a1, a2, a3, ?_, by omega, by simpa using a6, a7, fun k hk => ?_⟩
  · rw [e2 q (by omega) (by omega), ← hI1, xup_ne (by omega), xup_at]; unfold va_up; rw [if_pos rfl]
  · rw [od_set (by omega)]
    by_cases hko : k = old
    · rw [if_pos hko, hko]
      refine ⟨s1, s2, ?_, d1⟩
      rw [e2 _ (by omega) (by omega), ← hI1, xup_at]; unfold va_up; rw [if_pos rfl]
    · rw [if_neg hko]
      exact (a8 k hk).kept (fun a h1 h2 => ⟨by rw [e2 a (by omega) (by omega), i1 a (by omega) (by omega)], rfl⟩)
end XP
