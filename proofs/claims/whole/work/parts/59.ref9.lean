/-! reading, as the reference does it -/
theorem tdv_pos {xs : List Int} {v : Int} {p : Nat} {d : Int} {p' : Nat} (hv : 0 ≤ v ∧ v ≤ 15) (h : tdv xs v p = some (d, p')) : (p' : Int) = (p : Int) + (if v < 13 then 0 else v - 12) := by
  unfold tdv at h
  split at h
  · cases h; rw [if_pos (by omega)]; omega
  · split at h
    · cases h
    · split at h
      · cases h; rw [if_neg (by omega)]; omega
      · cases h; rw [if_neg (by omega)]; omega
theorem MM.setO {I I' : xI} {y j : Nat} {g : Msg} {os' : List Opt} (h : MM I y j g) (hf : Fr (Ob y j) I I') (hO : OO I' y j os') : MM I' y j (g.1, g.2.1, g.2.2.1, g.2.2.2.1, os', g.2.2.2.2.2) := by
  obtain ⟨⟨a1, a2, a3⟩, ⟨b1, b2⟩, c, d1, d2⟩ := h
  refine ⟨⟨?_, ?_, ?_⟩, ⟨?_, b2.kept (fun i hi => hf _ _ (by unfold Ob; omega))⟩, hO, ?_, d2.kept (fun i hi => hf _ _ (by unfold Ob; omega))⟩
  · rw [hf _ _ (by unfold Ob; omega)]; exact a1
  · rw [hf _ _ (by unfold Ob; omega)]; exact a2
  · rw [hf _ _ (by unfold Ob; omega)]; exact a3
  · rw [hf _ _ (by unfold Ob; omega)]; exact b1
  · rw [hf _ _ (by unfold Ob; omega)]; exact d1
theorem od_end {q : Opt} {os : List Opt} : od (os ++ [q]) os.length = q := by unfold od; simp
/-- where reading may write -/
def Fx (y a k : Nat) : Prop := Mb y 1 a k ∨ (a = y ∧ k = 15)
def ftP (z : Nat) (T : xY) (N : xN) (I : xI) (y : Nat) (xs : List Int) : xPo := xMd z T N fun r I' => r = some (.inl (-(rd xs).1)) ∧ Fr (Fx y) I I' ∧ (I' y 15 = 0 ∨ I' y 15 = 1) ∧ ((rd xs).1 = 0 → (I' y 15 = 0 ↔ (rd xs).2.2.2.2.2.1.length ≤ 20) ∧ ((rd xs).2.2.2.2.2.1.length ≤ 20 → MM I' y 1 (rd xs).2))
section XRef9
variable {Γ : xG} {E : xE} {M : xM} {z : Nat} {T : xY} {I J : xI} {N : xN} {y m lev mc ms ce sl pc idx i p : Nat} {os : List Opt} {g : Msg} {x : Dk} {xs : List Int} {Q : State → Prop} {lv : xL} {q : Opt}
theorem lf_arith {num n1 : Int} (D : xD Γ E mX10_fault 1 0 0) (h : MdS T N y) (hH : HH J y xs) (hp : p < xs.length) (hnum : 0 ≤ num ∧ num ≤ 65535)
    (K0 : pstep xs p num = none → ∀ lv, V Γ E Q z T J N 0 0 287 lv [])
    (K1 : ∀ num' fr n, pstep xs p num = some (num', fr, n) → V Γ E Q z T J N 0 0 289 (xlv [some (.inr (.inr y)), some (.inl n1), some (.inl (p : Int)), some (.inl num), some (.inl (xs.getD p 0 / 16)), some (.inl (xs.getD p 0 % 16)), some (.inl (num' - num)), some (.inl (fr : Int)), some (.inl ((n : Nat) : Int))]) []) :
    V Γ E Q z T J N 0 0 159 (xlv [some (.inr (.inr y)), some (.inl n1), some (.inl (p : Int)), some (.inl num)]) [] := by
  obtain ⟨⟨h1, h2, h3⟩, h4⟩ := id hH
  have hb := h3 _ (getD_mem hp)
  have r0 := h4 p hp
  rw [Nat.zero_add] at r0
  have e4 : zShr (xs.getD p 0) 4 = xs.getD p 0 / 16 := zShr_nat (k := 4) (by omega) (by decide)
  have e15 : zAnd (xs.getD p 0) 15 = xs.getD p 0 % 16 := zAndM (xs.getD p 0) 4 15 (by omega) (by decide)
  refine V_run D [] 186 rfl ⟨h.a12 (by omega), h.1, h.a12 (by omega), h.1, trivial⟩ ?_
  rw [h.n12, Int.toNat_natCast, r0, e4, e15]
  have hs := r_told (z := z) (N := N) (T := T) (v := xs.getD p 0 / 16) (p := p + 1) h hH (by omega) (by omega)
  rw [show ((p + 1 : Nat) : Int) = (p : Int) + 1 by omega] at hs
  refine V_askV (av := [.inl (xs.getD p 0 / 16), .inl ((p : Int) + 1)]) (st := []) D mwX10_told rfl lkX10_X10_told hs h.1 rfl ⟨Nat.le_refl _, Nat.le_refl _⟩ ?_
  generalize hdv : tv (tdv xs (xs.getD p 0 / 16) (p + 1)) = dv
  -- what stands behind the two short forms
  have s253 : ∀ (f sz : Int), 0 ≤ f ∧ f ≤ 3000 → -1 ≤ sz ∧ sz ≤ 70000 → -1 ≤ dv ∧ dv ≤ 70000 → (sz < 0 → pstep xs p num = none) → (0 ≤ sz → 0 ≤ dv ∧ pstep xs p num = pst2 xs num dv (sz, f.toNat)) →
      V Γ E Q z T J N 0 0 253 (xlv [some (.inr (.inr y)), some (.inl n1), some (.inl (p : Int)), some (.inl num), some (.inl (xs.getD p 0 / 16)), some (.inl (xs.getD p 0 % 16)), some (.inl dv), some (.inl f), some (.inl sz)]) [] := fun f sz hf hsz hd k0 k1 => by
    refine V_run D [] 255 rfl trivial ?_
    refine V_lt D 287 rfl rfl (by omega) (fun c => K0 (k0 c) _) (fun c => ?_)
    obtain ⟨hd0, k1⟩ := k1 (by omega)
    refine V_run D [] 264 rfl trivial ?_
    refine V_igt D 287 rfl rfl (by omega) (by omega) (fun c2 => K0 (by rw [k1]; unfold pst2; rw [if_pos (by omega)]) _) (fun c2 => ?_)
    refine V_run D [] 272 rfl trivial ?_
    refine V_igt D 287 rfl rfl (by omega) (by omega) (fun c3 => K0 (by rw [k1]; unfold pst2; rw [if_pos (Or.inr (Or.inl (by dsimp only; omega)))]) _) (fun c3 => ?_)
    refine V_run D [] 284 rfl ⟨h.1, trivial⟩ ?_
    rw [h1]
    refine V_ile D 289 rfl rfl (by omega) (by omega) (fun c4 => ?_) (fun c4 => K0 (by rw [k1]; unfold pst2; rw [if_pos (Or.inr (Or.inr (by dsimp only; omega)))]) _)
    have := K1 (num + dv) f.toNat sz.toNat (by rw [k1]; unfold pst2; rw [if_neg (by dsimp only; omega)])
    rw [show num + dv - num = dv by omega, show ((f.toNat : Nat) : Int) = f by omega, show ((sz.toNat : Nat) : Int) = sz by omega] at this
    exact this
  have s250 : ∀ (f sz : Int), 0 ≤ f ∧ f ≤ 2500 → -1 ≤ sz ∧ sz ≤ 70000 → -1 ≤ dv ∧ dv ≤ 70000 → (sz < 0 → pstep xs p num = none) → (0 ≤ sz → 0 ≤ dv ∧ pstep xs p num = pst2 xs num dv (sz, (f + (if xs.getD p 0 % 16 < 13 then 0 else xs.getD p 0 % 16 - 12)).toNat)) →
      V Γ E Q z T J N 0 0 230 (xlv [some (.inr (.inr y)), some (.inl n1), some (.inl (p : Int)), some (.inl num), some (.inl (xs.getD p 0 / 16)), some (.inl (xs.getD p 0 % 16)), some (.inl dv), some (.inl f)]) [.inl sz] := fun f sz hf hsz hd k0 k1 => by
    refine V_run D [] 238 rfl trivial ?_
    refine V_ige D 245 rfl rfl (by omega) (by omega) (fun c => ?_) (fun c => ?_)
    · rw [if_neg (by omega)] at k1
      refine V_run D [253] 253 rfl trivial ?_
      exact V_loc [some (.inr (.inr y)), some (.inl n1), some (.inl (p : Int)), some (.inl num), some (.inl (xs.getD p 0 / 16)), some (.inl (xs.getD p 0 % 16)), some (.inl dv), some (.inl (f + (xs.getD p 0 % 16 - 12))), some (.inl sz)] rfl (s253 _ sz (by omega) hsz hd k0 k1)
    · rw [if_pos (by omega)] at k1
      refine V_run D [253] 253 rfl trivial ?_
      exact V_loc [some (.inr (.inr y)), some (.inl n1), some (.inl (p : Int)), some (.inl num), some (.inl (xs.getD p 0 / 16)), some (.inl (xs.getD p 0 % 16)), some (.inl dv), some (.inl (f + 0)), some (.inl sz)] rfl (s253 _ sz (by omega) hsz hd k0 k1)
  have s210 : ∀ f : Int, f = (p : Int) + 1 + (if xs.getD p 0 / 16 < 13 then 0 else xs.getD p 0 / 16 - 12) → V Γ E Q z T J N 0 0 213 (xlv [some (.inr (.inr y)), some (.inl n1), some (.inl (p : Int)), some (.inl num), some (.inl (xs.getD p 0 / 16)), some (.inl (xs.getD p 0 % 16)), some (.inl dv), some (.inl f)]) [] := fun f hf => by
    have hfb : 0 ≤ f ∧ f ≤ 2500 := by rw [hf]; split <;> omega
    cases htd : tdv xs (xs.getD p 0 / 16) (p + 1) with
    | none =>
      rw [htd] at hdv
      dsimp only [tv] at hdv
      subst hdv
      refine V_run D [] 215 rfl trivial ?_
      refine V_ge D 222 rfl rfl (by omega) (fun c => absurd c (by decide)) (fun _ => ?_)
      refine V_run D [230] 230 rfl trivial ?_
      exact s250 f (-1) hfb (by omega) (by omega) (fun _ => by unfold pstep; rw [htd]) (fun q => absurd q (by decide))
    | some d =>
      obtain ⟨d1, d2⟩ := d
      rw [htd] at hdv
      dsimp only [tv] at hdv
      subst hdv
      have i1 := tdv_in h3 (by omega) (by omega) htd
      have i2 := tdv_pos (by omega) htd
      have hfd : f = (d2 : Int) := by rw [hf, i2]; omega
      refine V_run D [] 215 rfl trivial ?_
      refine V_ge D 222 rfl rfl (by omega) (fun _ => ?_) (fun c => absurd i1.1 c)
      refine V_run D [] 227 rfl trivial ?_
      have hs2 := r_told (z := z) (N := N) (T := T) (v := xs.getD p 0 % 16) (p := d2) h hH (by omega) (by omega)
      rw [← hfd] at hs2
      refine V_askV (av := [.inl (xs.getD p 0 % 16), .inl f]) (st := []) D mwX10_told rfl lkX10_X10_told hs2 h.1 rfl ⟨Nat.le_refl _, Nat.le_refl _⟩ ?_
      cases hte : tdv xs (xs.getD p 0 % 16) d2 with
      | none =>
        exact s250 f (-1) hfb (by omega) (by omega) (fun _ => by unfold pstep; rw [htd]; dsimp only; rw [hte]) (fun q => absurd q (by decide))
      | some e =>
        obtain ⟨e1, e2⟩ := e
        have j1 := tdv_in h3 (by omega) (by omega) hte
        have j2 := tdv_pos (by omega) hte
        refine s250 f e1 hfb (by omega) (by omega) (fun q => absurd q (by omega)) (fun _ => ⟨i1.1, ?_⟩)
        unfold pstep
        rw [htd]
        dsimp only
        rw [hte]
        dsimp only
        rw [hfd, ← j2, Int.toNat_natCast]
  refine V_run D [] 198 rfl trivial ?_
  refine V_ige D 205 rfl rfl (by omega) (by omega) (fun c => ?_) (fun c => ?_)
  · refine V_run D [213] 213 rfl trivial ?_
    exact V_loc [some (.inr (.inr y)), some (.inl n1), some (.inl (p : Int)), some (.inl num), some (.inl (xs.getD p 0 / 16)), some (.inl (xs.getD p 0 % 16)), some (.inl dv), some (.inl ((p : Int) + 1 + (xs.getD p 0 / 16 - 12)))] rfl (s210 _ (by rw [if_neg (by omega)]))
  · refine V_run D [213] 213 rfl trivial ?_
    exact V_loc [some (.inr (.inr y)), some (.inl n1), some (.inl (p : Int)), some (.inl num), some (.inl (xs.getD p 0 / 16)), some (.inl (xs.getD p 0 % 16)), some (.inl dv), some (.inl ((p : Int) + 1 + 0))] rfl (s210 _ (by rw [if_pos (by omega)]))
/-- an option read comes behind the others -/
theorem lf_put {num n1 d8 e8 : Int} {fr n : Nat} {l6 : Int} {acc : List Opt} (D : xD Γ E mX10_fault 1 0 0) (h : MdS T N y) (hH : HH J y xs) (hnum : 0 ≤ num ∧ num ≤ 65535) (hn : n ≤ 400) (hfr : fr + n ≤ xs.length) (hO : OO J y 1 acc) (hL : OL acc) (hacc : acc.length < 20) (hle : ∀ q ∈ acc, q.1 ≤ num)
    (K : ∀ J', Fr (Ob y 1) J J' → OO J' y 1 (acc ++ [(num, (xs.drop fr).take n)]) → ∀ lv, (∀ j v, xlv [some (.inr (.inr y)), some (.inl n1), none, some (.inl num), none, none, none, some (.inl (fr : Int)), some (.inl ((n : Nat) : Int))] j = some v → lv j = some v) → V Γ E Q z T J' N 0 0 353 lv []) :
    V Γ E Q z T J N 0 0 313 (xlv [some (.inr (.inr y)), some (.inl n1), some (.inl (p : Int)), some (.inl num), some (.inl d8), some (.inl e8), some (.inl l6), some (.inl (fr : Int)), some (.inl ((n : Nat) : Int))]) [] := by
  obtain ⟨⟨h1, h2, h3⟩, h4⟩ := id hH
  have hp := ipos_end hle
  have hs := r_place (z := z) (N := N) (T := T) (m := 1) (n := num) h (by omega) hO hL (by omega) (by omega)
  rw [hp, inso_end] at hs
  refine V_run D [] 316 rfl trivial ?_
  refine V_mdV (av := [.inl ((1 : Nat) : Int), .inl num]) (st := []) D mwX10_place rfl lkX10_X10_place hs h.1 rfl ⟨Nat.le_refl _, Nat.le_refl _⟩ (fun r J1 P1 => ?_)
  obtain ⟨rfl, f1, o1⟩ := P1
  refine V_run D [324] 324 rfl trivial ?_
  have vl : ((xs.drop fr).take n).length = n := by simp; omega
  have vg : ∀ k, k < n → ((xs.drop fr).take n).getD k 0 = xs.getD (fr + k) 0 := fun k hk => by
    rw [List.getD_eq_getElem?_getD, List.getElem?_take_of_lt hk, List.getElem?_drop, List.getD_eq_getElem?_getD]
  have vo : BsOk ((xs.drop fr).take n) := (h3.drop fr).take n
  generalize hv : (xs.drop fr).take n = v at *
  have al : (acc ++ [(num, ([] : List Int))]).length = acc.length + 1 := by simp
  have key : ∀ d k (J2 : xI), k + d = n → Fr (Ob y 1) J J2 → OO J2 y 1 (acc ++ [(num, v.take k)]) → V Γ E Q z T J2 N 0 0 324 (xlv [some (.inr (.inr y)), some (.inl n1), some (.inl (p : Int)), some (.inl num), some (.inl d8), some (.inl e8), some (.inl l6), some (.inl (fr : Int)), some (.inl ((n : Nat) : Int)), some (.inl ((21 * 1 + acc.length : Nat) : Int)), some (.inl (k : Int))]) [] := by
    intro d
    induction d with
    | zero =>
      intro k J2 hk f2 o2
      obtain rfl : k = n := by omega
      rw [List.take_of_length_le (by omega)] at o2
      refine V_run D [] 328 rfl trivial ?_
      refine V_ige D 353 rfl rfl (by omega) (by omega) (fun _ => ?_) (fun q => absurd q (by omega))
      refine K J2 f2 o2 _ (fun j v hj => ?_)
      match j, hj with
      | 0, hj => exact hj
      | 1, hj => exact hj
      | 2, hj => cases hj
      | 3, hj => exact hj
      | 4, hj => cases hj
      | 5, hj => cases hj
      | 6, hj => cases hj
      | 7, hj => exact hj
      | 8, hj => exact hj
    | succ d ih =>
      intro k J2 hk f2 o2
      have hH2 : HH J2 y xs := hH.kept (f2 _ _ (by unfold Ob; omega)) (fun k _ => f2 _ _ (by unfold Ob; omega))
      have r0 := hH2.2 (fr + k) (by omega)
      rw [Nat.zero_add] at r0
      have vb := h3 _ (getD_mem (xs := xs) (j := fr + k) (by omega))
      refine V_run D [] 328 rfl trivial ?_
      refine V_ige D 353 rfl rfl (by omega) (by omega) (fun q => absurd q (by omega)) (fun _ => ?_)
      refine V_run D [] 344 rfl ⟨h.a12 (by omega), h.1, trivial⟩ ?_
      rw [h.n12, show ((fr : Int) + (k : Int)).toNat = fr + k by omega, r0]
      have hL2 : OL (acc ++ [(num, v.take k)]) := by
        rw [← inso_end]
        exact hL.ins (Nat.le_refl _) ⟨hnum, by simp; omega, vo.take k⟩
      have hs2 := r_longer (z := z) (m := 1) (p := acc.length) (b := xs.getD (fr + k) 0) h (by omega) o2 hL2 (by simp; omega) (by simp) (by rw [od_end]; simp; omega)
      rw [od_end, set_last] at hs2
      refine V_mdV (av := [.inl ((21 * 1 + acc.length : Nat) : Int), .inl (xs.getD (fr + k) 0)]) (st := []) D mwX10_longer rfl lkX10_X10_longer hs2 h.1 rfl ⟨Nat.le_refl _, Nat.le_refl _⟩ (fun r J3 P3 => ?_)
      obtain ⟨rfl, f3, o3⟩ := P3
      refine V_run D [324] 324 rfl trivial ?_
      refine V_loc [some (.inr (.inr y)), some (.inl n1), some (.inl (p : Int)), some (.inl num), some (.inl d8), some (.inl e8), some (.inl l6), some (.inl (fr : Int)), some (.inl ((n : Nat) : Int)), some (.inl ((21 * 1 + acc.length : Nat) : Int)), some (.inl ((k + 1 : Nat) : Int))] rfl ?_
      refine ih (k + 1) J3 (by omega) (f2.trans (f3.wide (fun a k q => q.1))) ?_
      rw [take_snoc (by omega), vg k (by omega)]
      exact o3
  exact V_loc [some (.inr (.inr y)), some (.inl n1), some (.inl (p : Int)), some (.inl num), some (.inl d8), some (.inl e8), some (.inl l6), some (.inl (fr : Int)), some (.inl ((n : Nat) : Int)), some (.inl ((21 * 1 + acc.length : Nat) : Int)), some (.inl ((0 : Nat) : Int))] rfl (key n 0 J1 (Nat.zero_add _) f1 (by rw [List.take_zero]; exact o1))
end XRef9
