/-! READING: what bytes tell -/
def tdv (xs : List Int) (bits : Int) (p : Nat) : Option (Int × Nat) :=
  if bits < 13 then some (bits, p) else if bits = 15 ∨ (p : Int) + (bits - 12) > xs.length then none else if bits = 13 then some (13 + xs.getD p 0, p + 1) else some (269 + 256 * xs.getD p 0 + xs.getD (p + 1) 0, p + 2)
def pst2 (xs : List Int) (num : Int) (d : Int) (n : Int × Nat) : Option (Int × Nat × Nat) :=
  if num + d > 65535 ∨ n.1 > 400 ∨ (n.2 : Int) + n.1 > xs.length then none else some (num + d, n.2, n.1.toNat)
/-- an option at p: its number, where its value begins, how long it is -/
def pstep (xs : List Int) (p : Nat) (num : Int) : Option (Int × Nat × Nat) := match tdv xs (xs.getD p 0 / 16) (p + 1) with
  | none => none
  | some d => match tdv xs (xs.getD p 0 % 16) d.2 with
    | none => none
    | some n => pst2 xs num d.1 n
def prun (xs : List Int) : Nat → Nat → Int → List Opt → Option (Nat × List Opt)
  | 0, p, _, acc => some (p, acc)
  | k + 1, p, num, acc => if p < xs.length ∧ ¬ xs.getD p 0 = 255 then (match pstep xs p num with
      | none => none
      | some (num', fr, n) => prun xs k (fr + n) num' (acc ++ [(num', (xs.drop fr).take n)])) else some (p, acc)
def rdP (xs : List Int) (p : Nat) : List Int := if p < xs.length then xs.drop (p + 1) else []
def rdE (xs : List Int) (p : Nat) (os : List Opt) : Int × Msg :=
  if p < xs.length ∧ ((rdP xs p).length = 0 ∨ (rdP xs p).length > 400) then (-5, 0, 0, 0, [], [], []) else
  if xs.getD 1 0 = 0 ∧ xs.length > 4 then (-6, 0, 0, 0, [], [], []) else
  (0, xs.getD 0 0 / 16 % 4, xs.getD 1 0, 256 * xs.getD 2 0 + xs.getD 3 0, (xs.drop 4).take (xs.getD 0 0 % 16).toNat, os, rdP xs p)
/-- the FAULT below 0, or 0 and the message, with all its options -/
def rd (xs : List Int) : Int × Msg :=
  if xs.length < 4 then (-1, 0, 0, 0, [], [], []) else
  if ¬ xs.getD 0 0 / 64 = 1 then (-2, 0, 0, 0, [], [], []) else
  if xs.getD 0 0 % 16 > 8 ∨ 4 + xs.getD 0 0 % 16 > xs.length then (-3, 0, 0, 0, [], [], []) else
  match prun xs xs.length (4 + (xs.getD 0 0 % 16).toNat) 0 [] with
  | none => (-4, 0, 0, 0, [], [], [])
  | some (p, os) => rdE xs p os
theorem tdv_in {xs : List Int} (hx : BsOk xs) {bits : Int} {p : Nat} {v : Int} {p' : Nat} (hb : 0 ≤ bits ∧ bits ≤ 15) (hp : p ≤ xs.length) (h : tdv xs bits p = some (v, p')) : 0 ≤ v ∧ v ≤ 65804 ∧ p ≤ p' ∧ p' ≤ xs.length := by
  unfold tdv at h
  split at h
  · cases h; omega
  · split at h
    · cases h
    · split at h
      · cases h
        have := hx _ (getD_mem (xs := xs) (j := p) (by omega))
        omega
      · cases h
        have := hx _ (getD_mem (xs := xs) (j := p) (by omega))
        have := hx _ (getD_mem (xs := xs) (j := p + 1) (by omega))
        omega
theorem pst2_in {xs : List Int} {num d : Int} {n : Int × Nat} {num' : Int} {fr k : Nat} (h0 : 0 ≤ n.1) (h : pst2 xs num d n = some (num', fr, k)) : num' = num + d ∧ num' ≤ 65535 ∧ fr = n.2 ∧ (k : Int) = n.1 ∧ k ≤ 400 ∧ fr + k ≤ xs.length := by
  unfold pst2 at h
  split at h
  · cases h
  · cases h; omega
theorem pstep_in {xs : List Int} (hx : BsOk xs) {p : Nat} {num : Int} {num' : Int} {fr n : Nat} (hp : p < xs.length) (h : pstep xs p num = some (num', fr, n)) : num ≤ num' ∧ num' ≤ 65535 ∧ p < fr ∧ n ≤ 400 ∧ fr + n ≤ xs.length := by
  have hb := hx _ (getD_mem hp)
  unfold pstep at h
  split at h
  · cases h
  · rename_i d hd
    obtain ⟨d1, d2⟩ := d
    have i1 := tdv_in hx (by omega) (by omega) hd
    split at h
    · cases h
    · rename_i e he
      obtain ⟨e1, e2⟩ := e
      have i2 := tdv_in hx (by omega) (by omega) he
      have := pst2_in (by omega) h
      dsimp only at this i1 i2
      omega
section XMs
variable {T : xY} {I I' : xI} {N : xN} {m most : Nat} {g : Msg} {lat : Option Nat}
theorem MAt.setVal (h : MAt T I N m most g lat) {p o : Nat} {v' : List Int} (hp : p < g.2.2.2.2.1.length) (ho : o = N (m + 5) p) (hfr : ∀ a, a ≠ o + 1 → a ≠ o + 2 → I' a = I a) (hB : BAt T I' N (o + 1) 400 v') : MAt T I' N m most (g.1, g.2.1, g.2.2.1, g.2.2.2.1, g.2.2.2.2.1.set p ((od g.2.2.2.2.1 p).1, v'), g.2.2.2.2.2) lat := by
  obtain ⟨⟨a1, a2, a3, a4, a5, a6, a7, a8⟩, ⟨b1, b2, b3⟩, c1, c2, ⟨f, f1, f2, f3, f4⟩, l1⟩ := h
  obtain ⟨fp, eo⟩ := f1 p (by omega)
  rw [← ho] at eo
  obtain ⟨o1, o2, o3, o4⟩ := f4 p hp
  rw [← eo] at o1 o2 o3 o4
  have hO : OAt T I' N o (od g.2.2.2.2.1 p).1 v' := ⟨o1, o2, by rw [hfr o (by omega) (by omega)]; exact o3, hB⟩
  have keepO : ∀ k, k < most → k ≠ f p → ∀ {nu : Int} {v : List Int}, OAt T I N (m + 6 + 3 * k) nu v → OAt T I' N (m + 6 + 3 * k) nu v := fun k hk hne _ _ hh =>
    hh.kept (fun a h1 h2 => ⟨hfr a (by omega) (by omega), rfl⟩)
  have hsl : (g.2.2.2.2.1.set p ((od g.2.2.2.2.1 p).1, v')).length = g.2.2.2.2.1.length := List.length_set
  refine ⟨⟨a1, a2, a3, a4, a5, a6, ?_, ?_⟩, ⟨?_, ?_, ?_⟩, c1.kept (hfr _ (by omega) (by omega)) (hfr _ (by omega) (by omega)) rfl, c2.kept (hfr _ (by omega) (by omega)) (hfr _ (by omega) (by omega)) rfl, ⟨f, f1, f2, ?_, ?_⟩, ?_⟩
  · show I' m 3 = ((g.2.2.2.2.1.set p ((od g.2.2.2.2.1 p).1, v')).length : Int)
    rw [hsl, hfr m (by omega) (by omega)]; exact a7
  · show (g.2.2.2.2.1.set p ((od g.2.2.2.2.1 p).1, v')).length ≤ most
    omega
  · rw [hfr m (by omega) (by omega)]; exact b1
  · rw [hfr m (by omega) (by omega)]; exact b2
  · rw [hfr m (by omega) (by omega)]; exact b3
  · intro k hk
    by_cases hkp : k = f p
    · exact ⟨_, _, by rw [hkp, ← eo]; exact hO⟩
    · obtain ⟨nu, v, hh⟩ := f3 k hk
      exact ⟨nu, v, keepO k hk hkp hh⟩
  · intro j hj
    have hj' : j < g.2.2.2.2.1.length := by rw [← hsl]; exact hj
    show OAt T I' N (m + 6 + 3 * f j) (od (g.2.2.2.2.1.set p ((od g.2.2.2.2.1 p).1, v')) j).1 (od (g.2.2.2.2.1.set p ((od g.2.2.2.2.1 p).1, v')) j).2
    have e : od (g.2.2.2.2.1.set p ((od g.2.2.2.2.1 p).1, v')) j = if j = p then ((od g.2.2.2.2.1 p).1, v') else od g.2.2.2.2.1 j := by
      unfold od
      rw [List.getD_eq_getElem?_getD, List.getD_eq_getElem?_getD, List.getElem?_set]
      by_cases h : p = j
      · rw [if_pos h, if_pos h.symm, if_pos (by omega)]; simp [List.getD_eq_getElem?_getD]
      · rw [if_neg h, if_neg (fun q => h q.symm), List.getD_eq_getElem?_getD]
    rw [e]
    by_cases h : j = p
    · rw [if_pos h, h, ← eo]; exact hO
    · rw [if_neg h]
      exact keepO _ (f1 j (by omega)).1 (fun q => h (f2 _ _ (by omega) (by omega) q)) (f4 j hj')
  · cases lat with
    | none => exact l1
    | some l => exact ⟨by show l < (g.2.2.2.2.1.set p ((od g.2.2.2.2.1 p).1, v')).length; rw [hsl]; exact l1.1, l1.2⟩
theorem MAt.setPay (h : MAt T I N m most g lat) {v' : List Int} (hfr : ∀ a, a ≠ m + 3 → a ≠ m + 4 → I' a = I a) (hB : BAt T I' N (m + 3) 400 v') : MAt T I' N m most (g.1, g.2.1, g.2.2.1, g.2.2.2.1, g.2.2.2.2.1, v') lat := by
  obtain ⟨⟨a1, a2, a3, a4, a5, a6, a7, a8⟩, ⟨b1, b2, b3⟩, c1, c2, ⟨f, f1, f2, f3, f4⟩, l1⟩ := h
  have e0 := hfr m (by omega) (by omega)
  refine ⟨⟨a1, a2, a3, a4, a5, a6, by rw [e0]; exact a7, a8⟩, ⟨by rw [e0]; exact b1, by rw [e0]; exact b2, by rw [e0]; exact b3⟩, c1.kept (hfr _ (by omega) (by omega)) (hfr _ (by omega) (by omega)) rfl, hB, ⟨f, f1, f2, ?_, ?_⟩, l1⟩
  · intro k hk
    obtain ⟨nu, v, hh⟩ := f3 k hk
    exact ⟨nu, v, hh.kept (fun a h1 h2 => ⟨hfr a (by omega) (by omega), rfl⟩)⟩
  · intro j hj
    exact (f4 j hj).kept (fun a h1 h2 => ⟨hfr a (by omega) (by omega), rfl⟩)
theorem MAt.setTok (h : MAt T I N m most g lat) {v' : List Int} (hfr : ∀ a, a ≠ m + 1 → a ≠ m + 2 → I' a = I a) (hB : BAt T I' N (m + 1) 8 v') : MAt T I' N m most (g.1, g.2.1, g.2.2.1, v', g.2.2.2.2.1, g.2.2.2.2.2) lat := by
  obtain ⟨⟨a1, a2, a3, a4, a5, a6, a7, a8⟩, ⟨b1, b2, b3⟩, c1, c2, ⟨f, f1, f2, f3, f4⟩, l1⟩ := h
  have e0 := hfr m (by omega) (by omega)
  refine ⟨⟨a1, a2, a3, a4, a5, a6, by rw [e0]; exact a7, a8⟩, ⟨by rw [e0]; exact b1, by rw [e0]; exact b2, by rw [e0]; exact b3⟩, hB, c2.kept (hfr _ (by omega) (by omega)) (hfr _ (by omega) (by omega)) rfl, ⟨f, f1, f2, ?_, ?_⟩, l1⟩
  · intro k hk
    obtain ⟨nu, v, hh⟩ := f3 k hk
    exact ⟨nu, v, hh.kept (fun a h1 h2 => ⟨hfr a (by omega) (by omega), rfl⟩)⟩
  · intro j hj
    exact (f4 j hj).kept (fun a h1 h2 => ⟨hfr a (by omega) (by omega), rfl⟩)
theorem MAt.unlatest (h : MAt T I N m most g lat) : MAt T I (xup N m 4 0) m most g none := by
  obtain ⟨⟨a1, a2, a3, a4, a5, a6, a7, a8⟩, ⟨b1, b2, b3⟩, c1, c2, ⟨f, f1, f2, f3, f4⟩, l1⟩ := h
  have e : ∀ a, a ≠ m → xup N m 4 0 a = N a := fun a ha => xup_ne ha
  refine ⟨⟨a1, by rw [xup_at]; exact a2, by rw [xup_at]; exact a3, by rw [xup_at]; exact a4, a5, a6, a7, a8⟩, ⟨b1, b2, b3⟩, c1.kept rfl rfl (e _ (by omega)), c2.kept rfl rfl (e _ (by omega)), ⟨f, ?_, f2, ?_, ?_⟩, ?_⟩
  · intro j hj; rw [e _ (by omega)]; exact f1 j hj
  · intro k hk
    obtain ⟨nu, v, hh⟩ := f3 k hk
    exact ⟨nu, v, hh.kept (fun a h1 h2 => ⟨rfl, e _ (by omega)⟩)⟩
  · intro j hj
    exact (f4 j hj).kept (fun a h1 h2 => ⟨rfl, e _ (by omega)⟩)
  · show xup N m 4 0 m 4 = 0
    rw [xup_at]; rfl
end XMs
