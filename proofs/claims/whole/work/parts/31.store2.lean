theorem rsd_set {rs : List Res} {p : Nat} (hp : p < rs.length) (v : Res) (j : Nat) : rsd (rs.set p v) j = if j = p then v else rsd rs j := by
  unfold rsd
  rw [List.getD_eq_getElem?_getD, List.getD_eq_getElem?_getD, List.getElem?_set]
  by_cases h : p = j
  · rw [if_pos h, if_pos h.symm, if_pos (by omega)]; rfl
  · rw [if_neg h, if_neg (fun q => h q.symm)]
theorem rsd_app (rs : List Res) (v : Res) (j : Nat) : rsd (rs ++ [v]) j = if j < rs.length then rsd rs j else if j = rs.length then v else ([], [], 0) := by
  unfold rsd
  rw [List.getD_eq_getElem?_getD, List.getD_eq_getElem?_getD]
  by_cases h : j < rs.length
  · rw [if_pos h, List.getElem?_append_left h]
  · rw [if_neg h, List.getElem?_append_right (by omega)]
    by_cases h2 : j = rs.length
    · rw [if_pos h2, h2]; simp
    · rw [if_neg h2, List.getElem?_eq_none (by simp; omega)]; rfl
section XSt2
variable {Γ : xG} {E : xE} {z : Nat} {T : xY} {I : xI} {N : xN} {q b : Nat} {rs : List Res} {tags : Int} {ys : List Int}
/-- one resource has changed, of those there are -/
theorem StAt.set1 {I' : xI} (h : StAt T I N q rs tags) {k o : Nat} {x : Res} {tags' : Int} (hk : k < rs.length) (ho : o = N (q + 1) k) (hfr : ∀ a, a ≠ q → (a < o ∨ o + 5 ≤ a) → I' a = I a) (hq1 : I' q 1 = I q 1) (hq2 : I' q 2 = tags') (hx : RsAt T I' N o x) : StAt T I' N q (rs.set k x) tags' := by
  obtain ⟨⟨a1, a2, a3, a4, a5, a6⟩, f, f1, f2, f3, f4⟩ := h
  obtain ⟨fk, eo⟩ := f1 k (by omega)
  rw [← ho] at eo
  have hfr' : ∀ a, a ≠ q → (a < o ∨ o + 5 ≤ a) → I' a = I a ∧ N a = N a := fun a h1 h2 => ⟨hfr a h1 h2, rfl⟩
  refine ⟨⟨a1, a2, a3, by rw [hq1, List.length_set]; exact a4, by simpa using a5, hq2⟩, f, f1, f2, fun j hj => ?_, fun j hj => ?_⟩
  · by_cases hjk : j = f k
    · rw [hjk, ← eo]; exact hx.any
    · exact (f3 j hj).kept (fun a h1 h2 => hfr' a (by omega) (by omega))
  · rw [List.length_set] at hj
    rw [rsd_set hk]
    by_cases hjk : j = k
    · rw [if_pos hjk, hjk, ← eo]; exact hx
    · rw [if_neg hjk]
      have : f j ≠ f k := fun e => hjk (f2 _ _ (by omega) (by omega) e)
      exact (f4 j hj).kept (fun a h1 h2 => hfr' a (by omega) (by omega))
theorem StAt.res (h : StAt T I N q rs tags) {k : Nat} (hk : k < rs.length) : RsAt T I N (N (q + 1) k) (rsd rs k) ∧ q + 2 ≤ N (q + 1) k ∧ N (q + 1) k + 5 ≤ q + 82 := by
  obtain ⟨⟨a1, a2, a3, a4, a5, a6⟩, f, f1, f2, f3, f4⟩ := h
  obtain ⟨fk, eo⟩ := f1 k (by omega)
  rw [eo]
  exact ⟨f4 k hk, by omega, by omega⟩
theorem StAt.setCont {I' : xI} (h : StAt T I N q rs tags) {k o : Nat} {v : List Int} (hk : k < rs.length) (ho : o = N (q + 1) k) (hfr : ∀ a, a ≠ o + 3 → a ≠ o + 4 → I' a = I a) (hB : BAt T I' N (o + 3) 400 v) : StAt T I' N q (rs.set k ((rsd rs k).1, v, (rsd rs k).2.2)) tags := by
  obtain ⟨hx, h1, h2⟩ := h.res hk
  rw [← ho] at hx h1 h2
  have hq := hfr q (by omega) (by omega)
  refine h.set1 hk ho (fun a _ ha => hfr a (by omega) (by omega)) (by rw [hq]) (by rw [hq]; exact h.1.2.2.2.2.2) ?_
  obtain ⟨r1, r2, r3, r4, r5, r6, r7⟩ := hx
  have e := hfr o (by omega) (by omega)
  exact ⟨r1, r2, r3, by rw [e]; exact r4, by rw [e]; exact r5, r6.kept (hfr _ (by omega) (by omega)) (hfr _ (by omega) (by omega)) rfl, hB⟩
theorem s_nextTag {k o : Nat} (h : StAt T I N q rs tags) (ht : 0 ≤ tags ∧ tags ≤ 65535) (hk : k < rs.length) (ho : o = N (q + 1) k) : Spec mX8_giveNextTag 0 [.inr (.inr q), .inr (.inr o)] z T I N 0 0
    (xCg z T fun r I' N' => r = none ∧ N' = N ∧ (∀ a, a ≠ q → a ≠ o → I' a = I a) ∧ StAt T I' N q (rs.set k ((rsd rs k).1, (rsd rs k).2.1, (tags + 1) % 65536)) ((tags + 1) % 65536)) := by
  obtain ⟨hx, h1, h2⟩ := h.res hk
  rw [← ho] at hx h1 h2
  obtain ⟨r1, r2, r3, r4, r5, r6, r7⟩ := hx
  have a1 := h.1.1
  have a6 := h.1.2.2.2.2.2
  refine Spec_of okX8_giveNextTag (by decide) (by decide) (Nat.le_of_ble_eq_true rfl) fun Γ E D => ?_
  refine V_run D [] 21 rfl ⟨r1, a1, a1, a1, trivial⟩ ?_
  have e1 : zAnd (I q 2 + 1) 65535 = (tags + 1) % 65536 := by rw [a6, zAndM _ 16 65535 (by omega) (by decide)]; omega
  rw [e1]
  have e2 : xup I q 2 ((tags + 1) % 65536) q 2 = (tags + 1) % 65536 := by rw [xup_at]; unfold va_up; rw [if_pos rfl]
  rw [e2]
  generalize hI : xup (xup I q 2 ((tags + 1) % 65536)) o 3 ((tags + 1) % 65536) = I'
  have fr : ∀ a, a ≠ q → a ≠ o → I' a = I a := fun a g1 g2 => by rw [← hI, xup_ne g2, xup_ne g1]
  refine V_vret D rfl rfl ⟨rfl, rfl, rfl, rfl, fr, h.set1 hk ho (fun a g1 g2 => fr a g1 (by omega)) ?_ ?_ ⟨r1, r2, r3, ?_, ?_, r6.kept (fr _ (by omega) (by omega)) (fr _ (by omega) (by omega)) rfl, r7.kept (fr _ (by omega) (by omega)) (fr _ (by omega) (by omega)) rfl⟩⟩
  · rw [← hI, xup_ne (by omega), xup_at]; rfl
  · rw [← hI, xup_ne (by omega)]; exact e2
  · rw [← hI, xup_at, xup_ne (by omega)]; exact r4
  · rw [← hI, xup_at]; rfl
theorem s_makeFull {n : Int} (h : StAt T I N q rs tags) (hl : ¬ rs.length < 16) : Spec mX8_make 3 [.inr (.inr q), .inr (.inr b), .inl n] z T I N 0 0 (xSame z T I N (some (.inr (.inr 0)))) := by
  obtain ⟨⟨a1, a2, a3, a4, a5, a6⟩, f, f1, f2, f3, f4⟩ := h
  refine Spec_of okX8_make (by decide) (by decide) (Nat.le_of_ble_eq_true rfl) fun Γ E D => ?_
  refine V_run D [] 6 rfl ⟨a1, trivial⟩ ?_
  rw [a4]
  refine V_ilt D 11 rfl rfl (by omega) (by omega) (fun q1 => absurd q1 (by omega)) (fun q1 => ?_)
  refine V_run D [] 10 rfl trivial ?_
  exact V_aret D rfl rfl ⟨rfl, rfl, rfl, rfl, rfl⟩
theorem s_make {p : List (List Int)} (h : StAt T I N q rs tags) (hl : rs.length < 16) (hB : BAt T I N b 2040 (pe p)) (hb : b + 2 ≤ q ∨ q + 82 ≤ b) : Spec mX8_make 3 [.inr (.inr q), .inr (.inr b), .inl (p.length : Int)] z T I N 0 0
    (xCg z T fun r I' N' => r = some (.inr (.inr (N (q + 1) rs.length))) ∧ N' = N ∧ RCh q (q + 82) I N I' N ∧ ∃ t, StAt T I' N q (rs ++ [(p, [], t)]) tags) := by
  obtain ⟨⟨a1, a2, a3, a4, a5, a6⟩, f, f1, f2, f3, f4⟩ := id h
  obtain ⟨fc, eo⟩ := f1 rs.length hl
  generalize ho : N (q + 1) rs.length = o at eo ⊢
  obtain ⟨r1, r2, r3, ⟨v, r6⟩, w, r7⟩ := f3 (f rs.length) fc
  rw [← eo] at r1 r2 r3 r6 r7
  have hp5 := hB.2.2.2.2.1
  refine Spec_of okX8_make (by decide) (by decide) (Nat.le_of_ble_eq_true rfl) fun Γ E D => ?_
  refine V_run D [] 6 rfl ⟨a1, trivial⟩ ?_
  rw [a4]
  refine V_ilt D 11 rfl rfl (by omega) (by omega) (fun q1 => ?_) (fun q1 => absurd q1 (by omega))
  have eo2 : N (N q 0) (I q 1).toNat = o := by rw [a2, a4, Int.toNat_natCast, ho]
  refine V_run D [] 35 rfl ⟨by rw [eo2]; exact r1, a1, a1, ⟨4, by omega, 16, by rw [a2]; exact a3, by rw [a4]; omega, by rw [a4]; omega⟩, a1, a1, trivial⟩ ?_
  rw [eo2, r2, a4]
  generalize hI1 : xup I q 1 ((rs.length : Int) + 1) = I1
  have i1 : ∀ a, a ≠ q → I1 a = I a := fun a g => by rw [← hI1, xup_ne g]
  refine V_putB (av := []) (st := []) D mwX0_clear rfl lkX8_X0_clear (s_clear (r6.kept (i1 _ (by omega)) (i1 _ (by omega)) rfl)) r6.1 rfl ⟨Nat.le_refl _, Nat.le_refl _⟩ (fun I2 e2 d2 => ?_)
  refine V_run D [] 43 rfl ⟨r1, trivial⟩ ?_
  rw [r2]
  have hB2 : BAt T I2 N b 2040 (pe p) := hB.kept (by rw [e2 _ (by omega) (by omega), i1 _ (by omega)]) (by rw [e2 _ (by omega) (by omega), i1 _ (by omega)]) rfl
  refine V_putB (av := [.inr (.inr b)]) (st := []) D mwX0_addAll rfl lkX8_X0_addAll (s_addAll d2 hB2 (by omega)) r6.1 rfl ⟨Nat.le_refl _, Nat.le_refl _⟩ (fun I3 e3 d3 => ?_)
  rw [if_pos (by simp; omega), List.nil_append] at d3
  refine V_run D [] 55 rfl ⟨r1, r1, trivial⟩ ?_
  rw [r3]
  generalize hI4 : xup I3 o 2 (p.length : Int) = I4
  have i4 : ∀ a, a ≠ o → I4 a = I3 a := fun a g => by rw [← hI4, xup_ne g]
  have r7' : BAt T I4 N (o + 3) 400 w := r7.kept (by rw [i4 _ (by omega), e3 _ (by omega) (by omega), e2 _ (by omega) (by omega), i1 _ (by omega)]) (by rw [i4 _ (by omega), e3 _ (by omega) (by omega), e2 _ (by omega) (by omega), i1 _ (by omega)]) rfl
  refine V_putB (av := []) (st := []) D mwX0_clear rfl lkX8_X0_clear (s_clear r7') r7.1 rfl ⟨Nat.le_refl _, Nat.le_refl _⟩ (fun I5 e5 d5 => ?_)
  refine V_run D [] 59 rfl trivial ?_
  have fr : ∀ a, a ≠ q → (a < o ∨ o + 5 ≤ a) → I5 a = I a := fun a g1 g2 => by rw [e5 a (by omega) (by omega), i4 a (by omega), e3 a (by omega) (by omega), e2 a (by omega) (by omega), i1 a g1]
  have iq : I5 q = I1 q := by rw [e5 q (by omega) (by omega), i4 q (by omega), e3 q (by omega) (by omega), e2 q (by omega) (by omega)]
  refine V_aret D rfl rfl ⟨rfl, rfl, rfl, rfl, fun a g => ⟨fr a (by omega) (by omega), rfl⟩, I o 3, ⟨a1, a2, a3, ?_, by simp; omega, ?_⟩, f, f1, f2, fun j hj => ?_, fun j hj => ?_⟩
  · rw [iq, ← hI1, xup_at]; unfold va_up; rw [if_pos rfl]; simp
  · rw [iq, ← hI1, xup_at]; exact a6
  · by_cases hjf : j = f rs.length
    · rw [hjf, ← eo]
      exact ⟨r1, r2, r3, ⟨_, d3.kept (by rw [e5 _ (by omega) (by omega), i4 _ (by omega)]) (by rw [e5 _ (by omega) (by omega), i4 _ (by omega)]) rfl⟩, _, d5⟩
    · exact (f3 j hj).kept (fun a h1 h2 => ⟨fr a (by omega) (by omega), rfl⟩)
  · rw [rsd_app]
    simp at hj
    by_cases hjl : j < rs.length
    · rw [if_pos hjl]
      have : f j ≠ f rs.length := fun e => by have := f2 _ _ (by omega) hl e; omega
      have := (f1 j (by omega)).1
      exact (f4 j hjl).kept (fun a h1 h2 => ⟨fr a (by omega) (by omega), rfl⟩)
    · obtain rfl : j = rs.length := by omega
      rw [if_neg hjl, if_pos rfl, ← eo]
      refine ⟨r1, r2, r3, ?_, ?_, d3.kept (by rw [e5 _ (by omega) (by omega), i4 _ (by omega)]) (by rw [e5 _ (by omega) (by omega), i4 _ (by omega)]) rfl, d5⟩
      · rw [e5 _ (by omega) (by omega), ← hI4, xup_at]; rfl
      · rw [e5 _ (by omega) (by omega), ← hI4, xup_at]
        show I3 o 3 = I o 3
        rw [e3 _ (by omega) (by omega), e2 _ (by omega) (by omega), i1 _ (by omega)]
/-- the row of resources while one goes -/
def rmv (A : Nat → Nat) (g c : Nat) : Nat → Nat := fun j => if g ≤ j ∧ j < c then A (j + 1) else A j
theorem rmv_step (A : Nat → Nat) {g k : Nat} (h : g < k) : va_up (rmv A g (k - 1)) (k - 1) (A k) = rmv A g k := by
  funext j
  unfold va_up rmv
  by_cases h1 : j = k - 1
  · rw [if_pos h1, if_pos (by omega)]; congr 1; omega
  · rw [if_neg h1]
    by_cases h2 : g ≤ j ∧ j < k - 1
    · rw [if_pos h2, if_pos (by omega)]
    · rw [if_neg h2, if_neg (by omega)]
end XSt2
