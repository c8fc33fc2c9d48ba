theorem rmv_lo (A : Nat → Nat) {g c : Nat} (h : c ≤ g) : rmv A g c = A := by funext j; unfold rmv; rw [if_neg (by omega)]
theorem rsd_erase (rs : List Res) (g j : Nat) : rsd (rs.eraseIdx g) j = if j < g then rsd rs j else rsd rs (j + 1) := by
  unfold rsd
  rw [List.getD_eq_getElem?_getD, List.getElem?_eraseIdx]
  by_cases h : j < g
  · rw [if_pos h, if_pos h, List.getD_eq_getElem?_getD]
  · rw [if_neg h, if_neg h, List.getD_eq_getElem?_getD]
section XSt3
variable {Γ : xG} {E : xE} {z : Nat} {T : xY} {I : xI} {N : xN} {q b : Nat} {rs : List Res} {tags : Int} {ys : List Int}
theorem l_remove {g : Nat} (D : xD Γ E mX8_remove 0 0 0) (h : StAt T I N q rs tags) (hg : g < rs.length) {Q : State → Prop}
    (kk : ∀ N', N' = va_up N (q + 1) (rmv (N (q + 1)) g (rs.length - 1)) → V Γ E Q z T I N' 0 0 43 (xlv [some (.inr (.inr q)), some (.inr (.inr (N (q + 1) g))), some (.inl ((rs.length - 1 : Nat) : Int)), some (.inl ((rs.length : Nat) : Int))]) []) :
    ∀ (d k : Nat) (N' : xN), k + d = rs.length → N' = va_up N (q + 1) (rmv (N (q + 1)) g (k - 1)) →
      V Γ E Q z T I N' 0 0 4 (xlv [some (.inr (.inr q)), some (.inr (.inr (N (q + 1) g))), some (.inl ((if k ≤ g then k else k - 1 : Nat) : Int)), some (.inl (k : Int))]) []
  | 0, k, N', hk, hN' => by
    obtain ⟨⟨a1, a2, a3, a4, a5, a6⟩, f, f1, f2, f3, f4⟩ := id h
    obtain rfl : k = rs.length := by omega
    refine V_run D [] 9 rfl ⟨a1, trivial⟩ ?_
    rw [a4]
    refine V_ige D 43 rfl rfl (by omega) (by omega) (fun q1 => ?_) (fun q1 => absurd q1 (by omega))
    rw [if_neg (by omega)]
    exact kk N' hN'
  | d + 1, k, N', hk, hN' => by
    obtain ⟨⟨a1, a2, a3, a4, a5, a6⟩, f, f1, f2, f3, f4⟩ := id h
    have n1 : N' (q + 1) = rmv (N (q + 1)) g (k - 1) := by rw [hN']; unfold va_up; rw [if_pos rfl]
    have nm : ∀ a, a ≠ q + 1 → N' a = N a := fun a ha => by rw [hN']; unfold va_up; rw [if_neg ha]
    have a2' : N' q 0 = q + 1 := by rw [nm q (by omega)]; exact a2
    have nk : N' (q + 1) k = N (q + 1) k := by rw [n1]; unfold rmv; rw [if_neg (by omega)]
    obtain ⟨fk, ek⟩ := f1 k (by omega)
    obtain ⟨fg, eg⟩ := f1 g (by omega)
    refine V_run D [] 9 rfl ⟨a1, trivial⟩ ?_
    rw [a4]
    refine V_ige D 43 rfl rfl (by omega) (by omega) (fun q1 => absurd q1 (by omega)) (fun q1 => ?_)
    have ar : ∃ kd, 3 ≤ kd ∧ xAr T (N' q 0) kd (k : Int) := ⟨4, by omega, 16, by rw [a2']; exact a3, by omega, by omega⟩
    refine V_run D [] 19 rfl ⟨ar, a1, trivial⟩ ?_
    rw [a2', Int.toNat_natCast, nk]
    refine V_aeq D 37 rfl rfl (fun q2 => ?_) (fun q2 => ?_)
    · have hkg : k = g := f2 k g (by omega) (by omega) (by omega)
      refine V_run D [4] 4 rfl trivial ?_
      have e : (if k ≤ g then k else k - 1) = (if k + 1 ≤ g then k + 1 else k + 1 - 1) := by rw [if_pos (by omega), if_neg (by omega)]; omega
      rw [e]
      refine V_loc [some (.inr (.inr q)), some (.inr (.inr (N (q + 1) g))), some (.inl ((if k + 1 ≤ g then k + 1 else k + 1 - 1 : Nat) : Int)), some (.inl ((k + 1 : Nat) : Int))] rfl ?_
      refine l_remove D h hg kk d (k + 1) N' (by omega) ?_
      rw [hN', rmv_lo _ (by omega), rmv_lo _ (by omega)]
    · have hkg : k ≠ g := fun e => q2 (by rw [e])
      have hT5 : T (N (q + 1) k) = some (.inr 5) := by rw [ek]; exact (f4 k (by omega)).1
      generalize hkp : (if k ≤ g then k else k - 1) = kp
      have hkp2 : kp ≤ k := by rw [← hkp]; split <;> omega
      refine V_run D [4] 4 rfl ⟨⟨4, by omega, ⟨16, by rw [a2']; exact a3, by omega, by omega⟩, by rw [a2', Int.toNat_natCast, nk]; exact hT5⟩, ar, a1, a1, trivial⟩ ?_
      rw [a2', Int.toNat_natCast, Int.toNat_natCast, nk]
      have e : (kp : Int) + 1 = ((if k + 1 ≤ g then k + 1 else k + 1 - 1 : Nat) : Int) := by
        rw [← hkp]
        by_cases h1 : k + 1 ≤ g
        · rw [if_pos (by omega), if_pos h1]; omega
        · rw [if_neg (by omega), if_neg h1]; omega
      rw [e]
      refine V_loc [some (.inr (.inr q)), some (.inr (.inr (N (q + 1) g))), some (.inl ((if k + 1 ≤ g then k + 1 else k + 1 - 1 : Nat) : Int)), some (.inl ((k + 1 : Nat) : Int))] rfl ?_
      refine l_remove D h hg kk d (k + 1) _ (by omega) ?_
      unfold xup
      rw [n1]
      have e2 : va_up (rmv (N (q + 1)) g (k - 1)) kp (N (q + 1) k) = rmv (N (q + 1)) g (k + 1 - 1) := by
        rw [← hkp]
        by_cases h1 : k ≤ g
        · rw [if_pos h1, rmv_lo _ (by omega), rmv_lo _ (by omega)]
          funext j; unfold va_up; by_cases h2 : j = k
          · rw [if_pos h2, h2]
          · rw [if_neg h2]
        · rw [if_neg h1]; exact rmv_step _ (by omega)
      rw [e2, hN']
      funext a
      unfold va_up
      by_cases ha : a = q + 1
      · rw [if_pos ha, if_pos ha]
      · rw [if_neg ha, if_neg ha, if_neg ha]
theorem s_remove {g : Nat} (h : StAt T I N q rs tags) (hg : g < rs.length) : Spec mX8_remove 0 [.inr (.inr q), .inr (.inr (N (q + 1) g))] z T I N 0 0
    (xCg z T fun r I' N' => r = none ∧ RCh q (q + 82) I N I' N' ∧ StAt T I' N' q (rs.eraseIdx g) tags) := by
  obtain ⟨⟨a1, a2, a3, a4, a5, a6⟩, f, f1, f2, f3, f4⟩ := id h
  refine Spec_of okX8_remove (by decide) (by decide) (Nat.le_of_ble_eq_true rfl) fun Γ E D => ?_
  refine V_run D [4] 4 rfl trivial ?_
  have e0 : (0 : Int) = ((if 0 ≤ g then 0 else 0 - 1 : Nat) : Int) := by simp
  refine V_loc [some (.inr (.inr q)), some (.inr (.inr (N (q + 1) g))), some (.inl ((if 0 ≤ g then 0 else 0 - 1 : Nat) : Int)), some (.inl ((0 : Nat) : Int))] (by rw [← e0]; rfl) ?_
  refine l_remove D h hg (fun N1 hN1 => ?_) rs.length 0 N (by omega) ?_
  · obtain ⟨fg, eg⟩ := f1 g (by omega)
    have n1 : N1 (q + 1) = rmv (N (q + 1)) g (rs.length - 1) := by rw [hN1]; unfold va_up; rw [if_pos rfl]
    have nm : ∀ a, a ≠ q + 1 → N1 a = N a := fun a ha => by rw [hN1]; unfold va_up; rw [if_neg ha]
    have a2' : N1 q 0 = q + 1 := by rw [nm q (by omega)]; exact a2
    have hT5 : T (N (q + 1) g) = some (.inr 5) := by rw [eg]; exact (f4 g hg).1
    refine V_run D [] 48 rfl ⟨a1, trivial⟩ ?_
    rw [a4]
    refine V_ige D 63 rfl rfl (by omega) (by omega) (fun q1 => absurd q1 (by omega)) (fun q1 => ?_)
    refine V_run D [] 63 rfl ⟨a1, ⟨4, by omega, ⟨16, by rw [a2']; exact a3, by omega, by omega⟩, hT5⟩, a1, trivial⟩ ?_
    rw [a2', Int.toNat_natCast]
    generalize hN2 : xup N1 (q + 1) (rs.length - 1) (N (q + 1) g) = N2
    have m1 : ∀ j, N2 (q + 1) j = if j = rs.length - 1 then N (q + 1) g else rmv (N (q + 1)) g (rs.length - 1) j := fun j => by rw [← hN2, xup_at, n1]; rfl
    have mo : ∀ a, a ≠ q + 1 → N2 a = N a := fun a ha => by rw [← hN2, xup_ne ha, nm a ha]
    have io : ∀ a, a ≠ q → xup I q 1 ((rs.length - 1 : Nat) : Int) a = I a := fun a ha => xup_ne ha
    have hel : (rs.eraseIdx g).length = rs.length - 1 := by rw [List.length_eraseIdx, if_pos hg]
    refine V_vret D rfl rfl ⟨rfl, rfl, rfl, fun a ha => ⟨io a (by omega), mo a (by omega)⟩, ⟨a1, by rw [mo q (by omega)]; exact a2, a3, ?_, by omega, by rw [xup_at]; exact a6⟩, fun j => if j = rs.length - 1 then f g else if g ≤ j ∧ j < rs.length - 1 then f (j + 1) else f j, ?_, ?_, fun k hk => (f3 k hk).kept (fun a h1 h2 => ⟨io a (by omega), mo a (by omega)⟩), ?_⟩
    · rw [xup_at, hel]; rfl
    · intro j hj
      show (if j = rs.length - 1 then f g else if g ≤ j ∧ j < rs.length - 1 then f (j + 1) else f j) < 16 ∧ N2 (q + 1) j = q + 2 + 5 * (if j = rs.length - 1 then f g else if g ≤ j ∧ j < rs.length - 1 then f (j + 1) else f j)
      rw [m1 j]
      unfold rmv
      by_cases h1 : j = rs.length - 1
      · rw [if_pos h1, if_pos h1]; exact ⟨fg, eg⟩
      · rw [if_neg h1, if_neg h1]
        by_cases h2 : g ≤ j ∧ j < rs.length - 1
        · rw [if_pos h2, if_pos h2]; exact f1 (j + 1) (by omega)
        · rw [if_neg h2, if_neg h2]; exact f1 j hj
    · intro i j hi hj hij
      dsimp only at hij
      by_cases i1 : i = rs.length - 1
      · rw [if_pos i1] at hij
        by_cases j1 : j = rs.length - 1
        · omega
        · rw [if_neg j1] at hij
          by_cases j2 : g ≤ j ∧ j < rs.length - 1
          · rw [if_pos j2] at hij; have := f2 _ _ (by omega) (by omega) hij; omega
          · rw [if_neg j2] at hij; have := f2 _ _ (by omega) hj hij; omega
      · rw [if_neg i1] at hij
        by_cases i2 : g ≤ i ∧ i < rs.length - 1
        · rw [if_pos i2] at hij
          by_cases j1 : j = rs.length - 1
          · rw [if_pos j1] at hij; have := f2 _ _ (by omega) (by omega) hij; omega
          · rw [if_neg j1] at hij
            by_cases j2 : g ≤ j ∧ j < rs.length - 1
            · rw [if_pos j2] at hij; have := f2 _ _ (by omega) (by omega) hij; omega
            · rw [if_neg j2] at hij; have := f2 _ _ (by omega) hj hij; omega
        · rw [if_neg i2] at hij
          by_cases j1 : j = rs.length - 1
          · rw [if_pos j1] at hij; have := f2 _ _ hi (by omega) hij; omega
          · rw [if_neg j1] at hij
            by_cases j2 : g ≤ j ∧ j < rs.length - 1
            · rw [if_pos j2] at hij; have := f2 _ _ hi (by omega) hij; omega
            · rw [if_neg j2] at hij; exact f2 _ _ hi hj hij
    · intro j hj
      rw [hel] at hj
      rw [rsd_erase]
      dsimp only
      rw [if_neg (by omega)]
      by_cases h1 : j < g
      · rw [if_pos h1, if_neg (by omega)]
        have := (f1 j (by omega)).1
        exact (f4 j (by omega)).kept (fun a h1 h2 => ⟨io a (by omega), mo a (by omega)⟩)
      · rw [if_neg h1, if_pos (by omega)]
        have := (f1 (j + 1) (by omega)).1
        exact (f4 (j + 1) (by omega)).kept (fun a h1 h2 => ⟨io a (by omega), mo a (by omega)⟩)
  · rw [rmv_lo _ (by omega)]
    funext a
    unfold va_up
    by_cases ha : a = q + 1
    · rw [if_pos ha, ha]
    · rw [if_neg ha]
end XSt3
