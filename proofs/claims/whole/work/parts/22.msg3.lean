section XM3
variable {Γ : xG} {E : xE} {z : Nat} {T : xY} {I : xI} {N : xN} {m most lev : Nat} {g : Msg} {lat : Option Nat}
theorem s_putFull {n : Int} (h : MAt T I N m most g lat) (hlt : ¬ g.2.2.2.2.1.length < most) : Spec mX1_put 1 [.inr (.inr m), .inl n] z T I N 0 0 (xSame z T I N (some (.inr (.inr 0)))) := by
  obtain ⟨⟨a1, a2, a3, a4, a5, a6, a7, a8⟩, ⟨b1, b2, b3⟩, c1, c2, ⟨f, f1, f2, f3, f4⟩, l1⟩ := h
  have hlen : xlen T (m + 5) = most := by unfold xlen; rw [a5]
  refine Spec_of okX1_put (by decide) (by decide) (Nat.le_of_ble_eq_true rfl) fun Γ E D => ?_
  refine V_run D [] 9 rfl ⟨⟨_, _, by rw [a4]; exact a5⟩, a1, a1, trivial⟩ ?_
  rw [a7, a4, hlen]
  refine V_ilt D 14 rfl rfl (by omega) (by omega) (fun q1 => absurd q1 (by omega)) (fun q1 => ?_)
  refine V_run D [] 13 rfl trivial ?_
  exact V_aret D rfl rfl ⟨rfl, rfl, rfl, rfl, rfl⟩
/-- put: the new option, without a value, at its place; it is the latest -/
def putPost (T : xY) (I : xI) (N : xN) (m most : Nat) (g : Msg) (n : Int) : Option xV → xI → xN → Prop := fun r I' N' =>
  r = some (.inr (.inr (N' (m + 5) (ipos n g.2.2.2.2.1 g.2.2.2.2.1.length)))) ∧ RCh m (m + 6 + 3 * most) I N I' N' ∧ MAt T I' N' m most (g.1, g.2.1, g.2.2.1, g.2.2.2.1, inso (ipos n g.2.2.2.2.1 g.2.2.2.2.1.length) (n, []) g.2.2.2.2.1, g.2.2.2.2.2) (some (ipos n g.2.2.2.2.1 g.2.2.2.2.1.length))
set_option maxHeartbeats 1000000 in
theorem s_put {n : Int} (h : MAt T I N m most g lat) (hlt : g.2.2.2.2.1.length < most) (hn : xIn n) (hr : ∀ q ∈ g.2.2.2.2.1, xIn q.1) : Spec mX1_put 1 [.inr (.inr m), .inl n] z T I N 0 0 (xCg z T (putPost T I N m most g n)) := by
  have h0 := h
  obtain ⟨⟨a1, a2, a3, a4, a5, a6, a7, a8⟩, ⟨b1, b2, b3⟩, c1, c2, ⟨f, f1, f2, f3, f4⟩, l1⟩ := h
  have hlen : xlen T (m + 5) = most := by unfold xlen; rw [a5]
  refine Spec_of okX1_put (by decide) (by decide) (Nat.le_of_ble_eq_true rfl) fun Γ E D => ?_
  refine V_run D [] 9 rfl ⟨⟨_, _, by rw [a4]; exact a5⟩, a1, a1, trivial⟩ ?_
  rw [a7, a4, hlen]
  refine V_ilt D 14 rfl rfl (by omega) (by omega) (fun q1 => ?_) (fun q1 => absurd q1 (by omega))
  refine V_run D [29] 29 rfl ⟨a1, ⟨3, Nat.le_refl _, most, by rw [a4]; exact a5, by rw [a7]; omega, by rw [a7]; omega⟩, a1, a1, trivial⟩ ?_
  rw [a7, a4, Int.toNat_natCast]
  refine V_loc [some (.inr (.inr m)), some (.inl n), some (.inr (.inr (N (m + 5) g.2.2.2.2.1.length))), some (.inl ((g.2.2.2.2.1.length : Nat) : Int))] rfl ?_
  refine l_put D h0 hlt hn hr (fun N1 hN1 => ?_) _ N (Nat.le_refl _) rfl ?_
  · generalize hp : ipos n g.2.2.2.2.1 g.2.2.2.2.1.length = p at hN1 ⊢
    generalize hc : g.2.2.2.2.1.length = c at hN1 ⊢ hlt a7 a8 f4
    have hpc : p ≤ c := by rw [← hp, ← hc]; exact ipos_le _ _ _
    obtain ⟨fc, eo⟩ := f1 c hlt
    generalize ho : N (m + 5) c = o at eo ⊢
    obtain ⟨nu, v, o1, o2, o3, o4⟩ := f3 (f c) fc
    rw [← eo] at o1 o2 o3 o4
    have n5 : N1 (m + 5) = shf (N (m + 5)) p c := by rw [hN1]; unfold va_up; rw [if_pos rfl]
    have nm : ∀ a, a ≠ m + 5 → N1 a = N a := fun a ha => by rw [hN1]; unfold va_up; rw [if_neg ha]
    have a4' : N1 m 2 = m + 5 := by rw [nm m (by omega)]; exact a4
    have hx1 : ∀ a, a ≠ m + 5 → xup N1 (m + 5) ((p : Int)).toNat o a = N a := fun a ha => by rw [xup_ne ha]; exact nm a ha
    refine V_run D [] 84 rfl ⟨o1, o1, ⟨3, Nat.le_refl _, ⟨most, by rw [a4']; exact a5, by omega, by omega⟩, o1⟩, a1, trivial⟩ ?_
    rw [a4', hx1 o (by omega), o2]
    have o4' : BAt T (xup I o 1 n) (xup N1 (m + 5) ((p : Int)).toNat o) (o + 1) 400 v := o4.kept (xup_ne (by omega)) (xup_ne (by omega)) (hx1 _ (by omega))
    refine V_putB (av := []) (st := []) D mwX0_clear rfl lkX1_X0_clear (s_clear o4') o4.1 rfl ⟨Nat.le_refl _, Nat.le_refl _⟩ (fun I2 e2 d1 => ?_)
    have i2 : ∀ a, a ≠ o → a ≠ o + 1 → a ≠ o + 2 → I2 a = I a := fun a h1 h2 h3 => by rw [e2 a h2 h3, xup_ne h1]
    refine V_run D [] 103 rfl ⟨a1, a1, a1, trivial⟩ ?_
    rw [i2 m (by omega) (by omega) (by omega), a7, Int.toNat_natCast]
    generalize hN3 : xup (xup N1 (m + 5) p o) m 4 o = N3
    generalize hI3 : xup I2 m 3 ((c : Int) + 1) = I3
    have j5 : ∀ j, N3 (m + 5) j = if j = p then o else shf (N (m + 5)) p c j := fun j => by
      rw [← hN3, xup_ne (by omega), xup_at, n5]; unfold va_up; rfl
    have nO : ∀ a, a ≠ m → a ≠ m + 5 → N3 a = N a := fun a h1 h2 => by rw [← hN3, xup_ne h1, xup_ne h2, nm a h2]
    have nM : ∀ j, N3 m j = if j = 4 then o else N m j := fun j => by
      rw [← hN3, xup_at, xup_ne (by omega), nm m (by omega)]; unfold va_up; rfl
    have iO : ∀ a, a ≠ m → a ≠ o → a ≠ o + 1 → a ≠ o + 2 → I3 a = I a := fun a h1 h2 h3 h4 => by rw [← hI3, xup_ne h1, i2 a h2 h3 h4]
    have iM : ∀ j, I3 m j = if j = 3 then (c : Int) + 1 else I m j := fun j => by
      rw [← hI3, xup_at, i2 m (by omega) (by omega) (by omega)]; unfold va_up; rfl
    have hOo : OAt T I3 N3 o n [] := by
      refine ⟨o1, by rw [nO o (by omega) (by omega)]; exact o2, ?_, d1.kept (by rw [← hI3, xup_ne (by omega)]) (by rw [← hI3, xup_ne (by omega)]) (by rw [← hN3, xup_ne (by omega), Int.toNat_natCast])⟩
      rw [← hI3, xup_ne (by omega), e2 o (by omega) (by omega), xup_at]; unfold va_up; rw [if_pos rfl]
    have keepO : ∀ k, k < most → k ≠ f c → ∀ {nu : Int} {v : List Int}, OAt T I N (m + 6 + 3 * k) nu v → OAt T I3 N3 (m + 6 + 3 * k) nu v := fun k hk hne _ _ hh =>
      hh.kept (fun a h1 h2 => ⟨iO a (by omega) (by omega) (by omega) (by omega), nO a (by omega) (by omega)⟩)
    refine V_aret D rfl rfl ⟨rfl, rfl, ?_, ?_, ?_⟩
    · rw [hp]; rw [j5 p, if_pos rfl]
    · intro a ha
      exact ⟨iO a (by omega) (by omega) (by omega) (by omega), nO a (by omega) (by omega)⟩
    · rw [hp]
      have hil : (inso p (n, []) g.2.2.2.2.1).length = c + 1 := by rw [inso_len (by omega), hc]
      refine ⟨⟨a1, ?_, ?_, ?_, a5, a6, ?_, ?_⟩, ⟨?_, ?_, ?_⟩, c1.kept ?_ ?_ ?_, c2.kept ?_ ?_ ?_, ⟨fun j => if j = p then f c else if p < j ∧ j ≤ c then f (j - 1) else f j, ?_, ?_, ?_, ?_⟩, ?_⟩
      · rw [nM, if_neg (by omega)]; exact a2
      · rw [nM, if_neg (by omega)]; exact a3
      · rw [nM, if_neg (by omega)]; exact a4
      · rw [iM, if_pos rfl]; show (c : Int) + 1 = ((inso p (n, []) g.2.2.2.2.1).length : Int); rw [hil]; omega
      · show (inso p (n, []) g.2.2.2.2.1).length ≤ most; omega
      · rw [iM, if_neg (by omega)]; exact b1
      · rw [iM, if_neg (by omega)]; exact b2
      · rw [iM, if_neg (by omega)]; exact b3
      · exact iO _ (by omega) (by omega) (by omega) (by omega)
      · exact iO _ (by omega) (by omega) (by omega) (by omega)
      · exact nO _ (by omega) (by omega)
      · exact iO _ (by omega) (by omega) (by omega) (by omega)
      · exact iO _ (by omega) (by omega) (by omega) (by omega)
      · exact nO _ (by omega) (by omega)
      · intro j hj
        show (if j = p then f c else if p < j ∧ j ≤ c then f (j - 1) else f j) < most ∧ N3 (m + 5) j = m + 6 + 3 * (if j = p then f c else if p < j ∧ j ≤ c then f (j - 1) else f j)
        rw [j5 j]
        unfold shf
        by_cases h1 : j = p
        · rw [if_pos h1, if_pos h1]; exact ⟨fc, eo⟩
        · rw [if_neg h1, if_neg h1]
          by_cases h2 : p < j ∧ j ≤ c
          · rw [if_pos h2, if_pos h2]; exact f1 (j - 1) (by omega)
          · rw [if_neg h2, if_neg h2]; exact f1 j hj
      · intro i j hi hj hij
        dsimp only at hij
        have key : ∀ x y, x < most → y < most → f x = f y → x = y := f2
        by_cases i1 : i = p
        · rw [if_pos i1] at hij
          by_cases j1 : j = p
          · omega
          · rw [if_neg j1] at hij
            by_cases j2 : p < j ∧ j ≤ c
            · rw [if_pos j2] at hij; have := key _ _ hlt (by omega) hij; omega
            · rw [if_neg j2] at hij; have := key _ _ hlt hj hij; omega
        · rw [if_neg i1] at hij
          by_cases i2' : p < i ∧ i ≤ c
          · rw [if_pos i2'] at hij
            by_cases j1 : j = p
            · rw [if_pos j1] at hij; have := key _ _ (by omega) hlt hij; omega
            · rw [if_neg j1] at hij
              by_cases j2 : p < j ∧ j ≤ c
              · rw [if_pos j2] at hij; have := key _ _ (by omega) (by omega) hij; omega
              · rw [if_neg j2] at hij; have := key _ _ (by omega) hj hij; omega
          · rw [if_neg i2'] at hij
            by_cases j1 : j = p
            · rw [if_pos j1] at hij; have := key _ _ hi hlt hij; omega
            · rw [if_neg j1] at hij
              by_cases j2 : p < j ∧ j ≤ c
              · rw [if_pos j2] at hij; have := key _ _ hi (by omega) hij; omega
              · rw [if_neg j2] at hij; exact key _ _ hi hj hij
      · intro k hk
        by_cases hkc : k = f c
        · exact ⟨n, [], by rw [hkc, ← eo]; exact hOo⟩
        · obtain ⟨nu', v', hh⟩ := f3 k hk
          exact ⟨nu', v', keepO k hk hkc hh⟩
      · intro j hj
        have hj' : j < c + 1 := by rw [← hil]; exact hj
        show OAt T I3 N3 (m + 6 + 3 * (if j = p then f c else if p < j ∧ j ≤ c then f (j - 1) else f j)) (od (inso p (n, []) g.2.2.2.2.1) j).1 (od (inso p (n, []) g.2.2.2.2.1) j).2
        rw [inso_at (by omega) j]
        by_cases h1 : j = p
        · rw [if_pos h1, if_neg (by omega), if_pos h1, ← eo]; exact hOo
        · rw [if_neg h1]
          by_cases h2 : p < j ∧ j ≤ c
          · rw [if_pos h2, if_neg (by omega), if_neg h1]
            exact keepO _ (f1 (j - 1) (by omega)).1 (fun e => by have := f2 _ _ (by omega) hlt e; omega) (f4 (j - 1) (by omega))
          · rw [if_neg h2, if_pos (by omega)]
            exact keepO _ (f1 j (by omega)).1 (fun e => by have := f2 _ _ (by omega) hlt e; omega) (f4 j (by omega))
      · refine ⟨by show p < (inso p (n, []) g.2.2.2.2.1).length; omega, ?_⟩
        rw [nM, if_pos rfl, j5, if_pos rfl]
  · rw [shf_0]
    funext a
    unfold va_up
    by_cases ha : a = m + 5
    · rw [if_pos ha, ha]
    · rw [if_neg ha]
end XM3
