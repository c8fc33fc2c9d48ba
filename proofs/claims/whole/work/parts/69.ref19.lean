/-- the conditions, where there is such a resource, with its place and tag, or none -/
def rI1 (o : Option (Nat × Int)) : Int := match o with
  | none => -1
  | some k => (k.1 : Int)
def oT (o : Option (Nat × Int)) : Option Int := match o with
  | none => none
  | some k => some k.2
def hq1 (o : Option (Nat × Int)) (q : Opt) : Bool := match o with
  | none => false
  | some k => q.1 == 1 && (q.2.length == 0 || isT q.2 k.2)
def hol (o : Option (Nat × Int)) (os : List Opt) : Bool := os.any (hq1 o)
theorem hol_none {os : List Opt} : hol none os = false := by
  unfold hol; rw [List.any_eq_false]; intro q _; simp [hq1]
theorem hol_some {os : List Opt} {k : Nat × Int} : hol (some k) os = mtc os k.2 := rfl
theorem fails_eq {os : List Opt} {o : Option (Nat × Int)} (h5 : o ≠ none → has 5 os = false) : fails os (oT o) = (has 1 os && !hol o os) := by
  cases o with
  | none => unfold fails oT; rw [hol_none]; simp
  | some k => unfold fails oT; dsimp only; rw [h5 (by simp), hol_some]; rfl
section XRef19
variable {Γ : xG} {E : xE} {M : xM} {z : Nat} {T : xY} {I I' J : xI} {N : xN} {y m lev mc ms ce sl pc idx i p r n k : Nat} {os : List Opt} {g : Msg} {x w : Res} {xs v : List Int} {Q : State → Prop} {lv : xL} {q : Opt} {rs : List Res}
theorem la_cond {o : Option (Nat × Int)} (D : xD Γ E mX10_answer 3 0 0) (h : MdS T N y) (hO : OO I y 1 os) (hL : OL os) (hn : os.length ≤ 20) (ho : ∀ k, o = some k → k.1 < 16 ∧ I (y + 18) k.1 = k.2 ∧ 0 ≤ k.2 ∧ k.2 ≤ 65535)
    (K180 : fails os (oT o) = true → ∀ lv, V Γ E Q z T I N 0 0 180 lv []) (K198 : fails os (oT o) = true → ∀ lv, V Γ E Q z T I N 0 0 198 lv []) (K1 : fails os (oT o) = false → ∀ lv, lv 0 = some (.inr (.inr y)) → lv 1 = some (.inl (rI1 o)) → V Γ E Q z T I N 0 0 202 lv []) : ∀ d i, i + d = os.length → (o ≠ none → has 5 (os.take i) = false) →
    V Γ E Q z T I N 0 0 65 (xlv [some (.inr (.inr y)), some (.inl (rI1 o)), some (.inl (b01 (has 1 (os.take i)))), some (.inl (b01 (hol o (os.take i)))), some (.inl ((21 * 1 + i : Nat) : Int))]) []
  | 0, i, hi, h5 => by
    obtain rfl : i = os.length := by omega
    rw [List.take_length] at h5 ⊢
    have hf := fails_eq h5
    refine V_run D [] 76 rfl ⟨h.a6 (by omega), h.1, trivial⟩ ?_
    rw [h.n6, show ((1 : Int)).toNat = 1 from rfl, hO.1]
    refine V_ige D 190 rfl rfl (by omega) (by omega) (fun _ => ?_) (fun q => absurd q (by omega))
    refine V_run D [] 191 rfl trivial ?_
    refine V_eq D 202 rfl rfl (b01_in _) (fun c => ?_) (fun c => ?_)
    · rw [b01_0] at c
      exact K1 (by rw [hf, c]; rfl) _ rfl rfl
    · have c' : has 1 os = true := by cases hh : has 1 os <;> rw [hh] at c <;> simp [b01] at c ⊢
      refine V_run D [] 195 rfl trivial ?_
      refine V_ne D 202 rfl rfl (b01_in _) (fun c2 => ?_) (fun c2 => ?_)
      · have c2' : hol o os = true := by cases hh : hol o os <;> rw [hh] at c2 <;> simp [b01] at c2 ⊢
        exact K1 (by rw [hf, c', c2']; rfl) _ rfl rfl
      · rw [b01_0] at c2
        exact K198 (by rw [hf, c', c2]; rfl) _
  | d + 1, i, hi, h5 => by
    have hE := hO.2 i (by omega)
    obtain ⟨o1, o2, o3⟩ := id hE
    obtain ⟨v1, v2, v3⟩ := hL i (by omega)
    have hr : xIn (rI1 o) := by
      cases o with
      | none => unfold rI1; decide
      | some k => have := (ho k rfl).1; unfold rI1; dsimp only; omega
    have ih := la_cond D h hO hL hn ho K180 K198 K1 d (i + 1) (by omega)
    have e5 : has 5 (os.take (i + 1)) = (has 5 (os.take i) || ((od os i).1 == 5)) := any_snocT _ (by omega)
    have e1 : has 1 (os.take (i + 1)) = (has 1 (os.take i) || ((od os i).1 == 1)) := any_snocT _ (by omega)
    have eh : hol o (os.take (i + 1)) = (hol o (os.take i) || hq1 o (od os i)) := any_snocT _ (by omega)
    have m5 : (od os i).1 = 5 → has 5 os = true := fun c => by
      unfold has; rw [List.any_eq_true]
      exact ⟨od os i, by rw [od_get (by omega)]; exact List.getElem_mem _, by rw [c]; rfl⟩
    rw [e5, e1, eh] at ih
    generalize hq : od os i = q at *
    generalize hA : has 1 (os.take i) = A at *
    generalize hH : hol o (os.take i) = H at *
    refine V_run D [] 76 rfl ⟨h.a6 (by omega), h.1, trivial⟩ ?_
    rw [h.n6, show ((1 : Int)).toNat = 1 from rfl, hO.1]
    refine V_ige D 190 rfl rfl (by omega) (by omega) (fun q => absurd q (by omega)) (fun _ => ?_)
    have s164 : V Γ E Q z T I N 0 0 164 (xlv [some (.inr (.inr y)), some (.inl (rI1 o)), some (.inl (b01 (A || (q.1 == 1)))), some (.inl (b01 (H || hq1 o q))), some (.inl ((21 * 1 + i : Nat) : Int))]) [] := by
      have next : (o ≠ none → (q.1 == 5) = false) → V Γ E Q z T I N 0 0 184 (xlv [some (.inr (.inr y)), some (.inl (rI1 o)), some (.inl (b01 (A || (q.1 == 1)))), some (.inl (b01 (H || hq1 o q))), some (.inl ((21 * 1 + i : Nat) : Int))]) [] := fun hc => by
        refine V_run D [65] 65 rfl trivial ?_
        exact V_loc [some (.inr (.inr y)), some (.inl (rI1 o)), some (.inl (b01 (A || (q.1 == 1)))), some (.inl (b01 (H || hq1 o q))), some (.inl ((21 * 1 + (i + 1) : Nat) : Int))] rfl (ih (fun hne => by rw [h5 hne, hc hne]; rfl))
      refine V_run D [] 172 rfl ⟨h.a7 (by omega), h.1, trivial⟩ ?_
      rw [h.n7, Int.toNat_natCast, o1]
      refine V_ine D 184 rfl rfl (by omega) (by omega) (fun c => next (fun _ => beq_false_of_ne c)) (fun c => ?_)
      refine V_run D [] 177 rfl trivial ?_
      refine V_ieq D 184 rfl rfl hr (by omega) (fun c2 => next (fun hne => ?_)) (fun c2 => ?_)
      · cases o with
        | none => exact absurd rfl hne
        | some k => unfold rI1 at c2; dsimp only at c2; omega
      · cases o with
        | none => exact absurd rfl c2
        | some k => exact K180 (by unfold fails oT; dsimp only; rw [m5 c]; rfl) _
    have s100 : V Γ E Q z T I N 0 0 100 (xlv [some (.inr (.inr y)), some (.inl (rI1 o)), some (.inl (b01 (A || (q.1 == 1)))), some (.inl (b01 H)), some (.inl ((21 * 1 + i : Nat) : Int))]) [] := by
      have s158 : (H || hq1 o q) = true → V Γ E Q z T I N 0 0 158 (xlv [some (.inr (.inr y)), some (.inl (rI1 o)), some (.inl (b01 (A || (q.1 == 1)))), some (.inl (b01 H)), some (.inl ((21 * 1 + i : Nat) : Int))]) [] := fun hc => by
        rw [hc] at s164
        refine V_run D [164] 164 rfl trivial ?_
        exact V_loc [some (.inr (.inr y)), some (.inl (rI1 o)), some (.inl (b01 (A || (q.1 == 1)))), some (.inl (b01 true)), some (.inl ((21 * 1 + i : Nat) : Int))] rfl s164
      have s162 : (H || hq1 o q) = false → V Γ E Q z T I N 0 0 162 (xlv [some (.inr (.inr y)), some (.inl (rI1 o)), some (.inl (b01 (A || (q.1 == 1)))), some (.inl (b01 H)), some (.inl ((21 * 1 + i : Nat) : Int))]) [] := fun hc => by
        rw [hc] at s164
        refine V_run D [164] 164 rfl trivial ?_
        exact V_loc [some (.inr (.inr y)), some (.inl (rI1 o)), some (.inl (b01 (A || (q.1 == 1)))), some (.inl (b01 false)), some (.inl ((21 * 1 + i : Nat) : Int))] rfl s164
      refine V_run D [] 101 rfl trivial ?_
      refine V_ne D 158 rfl rfl (b01_in _) (fun c => s158 ?_) (fun c => ?_)
      · have : H = true := by cases H <;> simp [b01] at c ⊢
        rw [this]; rfl
      have hH0 : H = false := b01_0.mp c
      refine V_run D [] 112 rfl ⟨h.a7 (by omega), h.1, trivial⟩ ?_
      rw [h.n7, Int.toNat_natCast, o1]
      refine V_ine D 162 rfl rfl (by omega) (by omega) (fun c1 => s162 ?_) (fun c1 => ?_)
      · rw [hH0]
        cases o with
        | none => rfl
        | some k => unfold hq1; dsimp only; rw [beq_false_of_ne c1]; rfl
      refine V_run D [] 117 rfl trivial ?_
      cases o with
      | none => exact V_ieq D 162 rfl rfl hr (by omega) (fun _ => s162 (by rw [hH0]; rfl)) (fun c2 => absurd rfl c2)
      | some k =>
        obtain ⟨ho1, ho2, ho3⟩ := ho k rfl
        have eq1 : (H || hq1 (some k) q) = (q.2.length == 0 || isT q.2 k.2) := by rw [hH0]; unfold hq1; dsimp only; rw [c1]; simp
        rw [eq1] at s158 s162
        refine V_ieq D 162 rfl rfl hr (by omega) (fun c2 => ?_) (fun c2 => ?_)
        · unfold rI1 at c2; dsimp only at c2; omega
        refine V_run D [] 127 rfl ⟨h.a8 (by omega), h.1, trivial⟩ ?_
        rw [h.n8, Int.toNat_natCast, o2]
        refine V_eq D 158 rfl rfl (by omega) (fun c3 => s158 ?_) (fun c3 => ?_)
        · rw [show q.2.length = 0 by omega]; rfl
        have ec : (q.2.length == 0) = false := beq_false_of_ne (by omega)
        rw [ec, Bool.false_or] at s158 s162
        have er : rI1 (some k) = (k.1 : Int) := rfl
        refine V_run D [] 152 rfl ⟨by rw [er]; exact h.a18 (by omega), h.1, by rw [er]; exact h.a18 (by omega), h.1, trivial⟩ ?_
        have ht : I (y + 18) (rI1 (some k)).toNat = k.2 := by rw [er, Int.toNat_natCast]; exact ho2
        rw [h.n18, ht, show zShr k.2 8 = k.2 / 256 from zShr_nat (k := 8) (by omega) (by decide), zAnd255]
        refine V_askV (av := [.inl ((21 * 1 + i : Nat) : Int), .inl (k.2 / 256), .inl (k.2 % 256)]) (st := []) D mwX10_isValue rfl lkX10_X10_isValue (r_isValue h (by omega) hE v2 v3 ho3) h.1 rfl ⟨Nat.le_refl _, Nat.le_refl _⟩ ?_
        refine V_eq D 162 rfl rfl (b01_in _) (fun c4 => s162 (b01_0.mp c4)) (fun c4 => s158 ?_)
        cases hh : isT q.2 k.2 <;> rw [hh] at c4 <;> simp [b01] at c4 ⊢
    have s94 : (A || (q.1 == 1)) = true → V Γ E Q z T I N 0 0 94 (xlv [some (.inr (.inr y)), some (.inl (rI1 o)), some (.inl (b01 A)), some (.inl (b01 H)), some (.inl ((21 * 1 + i : Nat) : Int))]) [] := fun hc => by
      rw [hc] at s100
      refine V_run D [100] 100 rfl trivial ?_
      exact V_loc [some (.inr (.inr y)), some (.inl (rI1 o)), some (.inl (b01 true)), some (.inl (b01 H)), some (.inl ((21 * 1 + i : Nat) : Int))] rfl s100
    refine V_run D [] 80 rfl trivial ?_
    refine V_ne D 94 rfl rfl (b01_in _) (fun c => s94 ?_) (fun c => ?_)
    · have : A = true := by cases A <;> simp [b01] at c ⊢
      rw [this]; rfl
    have hA0 : A = false := b01_0.mp c
    refine V_run D [] 91 rfl ⟨h.a7 (by omega), h.1, trivial⟩ ?_
    rw [h.n7, Int.toNat_natCast, o1]
    refine V_ine D 98 rfl rfl (by omega) (by omega) (fun c1 => ?_) (fun c1 => s94 (by rw [c1]; simp))
    have : (A || (q.1 == 1)) = false := by rw [hA0, beq_false_of_ne c1]; rfl
    rw [this] at s100
    refine V_run D [100] 100 rfl trivial ?_
    exact V_loc [some (.inr (.inr y)), some (.inl (rI1 o)), some (.inl (b01 false)), some (.inl (b01 H)), some (.inl ((21 * 1 + i : Nat) : Int))] rfl s100
/-- new contents and a new tag; the tag is told -/
theorem la_tail {tags : Int} {ps : List (List Int)} {cs pay : List Int} {an : Int} {c2 c3 : Option xV} (D : xD Γ E mX10_answer 3 0 0) (h : MdS T N y) (hr : r < 16) (hP : PB J y r ps) (hC : Rw (J (y + 17)) (400 * r) cs) (hl : cs.length + pay.length ≤ 400) (hpl : J (y + 10) 1 = (pay.length : Int)) (hp : Rw (J (y + 11)) 400 pay) (ht : J y 17 = tags) (htb : 0 ≤ tags ∧ tags ≤ 65535) (hA : AA J y ([], [])) (han : an = 0 ∨ an = 1)
    (K : ∀ J', Fr (fun a k => Ob y 2 a k ∨ (a = y ∧ k = 17) ∨ (Qb y r a k ∧ ¬ Pb y r a k)) J J' → RB J' y r (ps, cs ++ pay, (tags + 1) % 65536) → J' y 17 = (tags + 1) % 65536 → AA J' y ([(4, hib ((tags + 1) % 65536) 2)], []) → ∀ lv, V Γ E Q z T J' N 0 0 439 lv [.inl (if an = 0 then 68 else 65)]) :
    V Γ E Q z T J N 0 0 337 (xlv [some (.inr (.inr y)), some (.inl (r : Int)), c2, c3, some (.inl (cs.length : Int)), some (.inl an)]) [] := by
  refine V_run D [340] 340 rfl trivial ?_
  rw [← cpy_0 J (y + 17) (400 * r + cs.length) (fun k => J (y + 11) (400 + k))]
  refine V_lv (lv' := xlv [some (.inr (.inr y)), some (.inl (r : Int)), none, none, some (.inl (cs.length : Int)), some (.inl an), some (.inl ((0 : Nat) : Int))]) (fun j v hj => ?_) ?_
  · match j, hj with
    | 0, hj => exact hj
    | 1, hj => exact hj
    | 2, hj => cases hj
    | 3, hj => cases hj
    | 4, hj => exact hj
    | 5, hj => exact hj
    | 6, hj => exact hj
  have c10 : ∀ n, n ≤ 400 → cpy J (y + 17) (400 * r + cs.length) (fun k => J (y + 11) (400 + k)) n (y + 10) 1 = (pay.length : Int) := fun n _ => by rw [cpy_out (by omega)]; exact hpl
  refine xdn (P := fun k => V Γ E Q z T (cpy J (y + 17) (400 * r + cs.length) (fun k => J (y + 11) (400 + k)) k) N 0 0 340 (xlv [some (.inr (.inr y)), some (.inl (r : Int)), none, none, some (.inl (cs.length : Int)), some (.inl an), some (.inl (k : Int))]) []) pay.length ?_ (fun k hk ih => ?_)
  · refine V_run D [] 348 rfl ⟨h.a10 (by omega), h.1, trivial⟩ ?_
    rw [h.n10, show ((1 : Int)).toNat = 1 from rfl, c10 _ (by omega)]
    refine V_ige D 384 rfl rfl (by omega) (by omega) (fun _ => ?_) (fun q => absurd q (by omega))
    have c17 : cpy J (y + 17) (400 * r + cs.length) (fun k => J (y + 11) (400 + k)) pay.length y 17 = tags := by rw [cpy_out (by omega)]; exact ht
    generalize hC1 : cpy J (y + 17) (400 * r + cs.length) (fun k => J (y + 11) (400 + k)) pay.length = C1 at *
    have c10' := c10 pay.length (by omega)
    rw [hC1] at c10'
    refine V_run D [] 424 rfl ⟨h.a18 (by omega), h.1, h.1, h.1, h.1, h.a16 (by omega), h.a10 (by omega), h.1, h.1, trivial⟩ ?_
    have em : zAnd (tags + 1) 65535 = (tags + 1) % 65536 := zAndM (tags + 1) 16 65535 (by omega) (by decide)
    rw [h.n10, h.n16, h.n18, Int.toNat_natCast, show ((1 : Int)).toNat = 1 from rfl, c10', show xup C1 (y + 16) r ((cs.length : Int) + (pay.length : Int)) y 17 = tags by rw [xup_ap, if_neg (by omega)]; exact c17, em, show xup (xup C1 (y + 16) r ((cs.length : Int) + (pay.length : Int))) y 17 ((tags + 1) % 65536) y 17 = (tags + 1) % 65536 by rw [xup_ap, if_pos ⟨rfl, rfl⟩]]
    generalize htt : (tags + 1) % 65536 = t2 at *
    generalize hC2 : xup (xup (xup C1 (y + 16) r ((cs.length : Int) + (pay.length : Int))) y 17 t2) (y + 18) r t2 = C2
    have kC : ∀ a k, ¬ (a = y ∧ k = 17) → ¬ ((a = y + 16 ∨ a = y + 18) ∧ k = r) → ¬ (a = y + 17 ∧ 400 * r + cs.length ≤ k ∧ k < 400 * r + cs.length + pay.length) → C2 a k = J a k := fun a k q1 q2 q3 => by
      rw [← hC2, xup_ap, if_neg (by omega), xup_ap, if_neg (by omega), xup_ap, if_neg (by omega), ← hC1, cpy_out (by omega)]
    have t18 : C2 (y + 18) r = t2 := by rw [← hC2]; (simp only [xup_ap, true_and, and_true, if_true, if_false]; repeat (first | rw [if_neg (by omega)] | rw [if_pos (by omega)]))
    have oC : OO C2 y 2 [] := hA.1.kept (fun k hk => by simp at hk) (by simp) (fun a k q => kC a k (by unfold Ob at q; omega) (by unfold Ob at q; omega) (by unfold Ob at q; omega))
    refine V_mdV (av := [.inl (r : Int)]) (st := []) D mwX10_tells rfl lkX10_X10_tells (r_tells h hr t18 (by omega) oC) h.1 rfl ⟨Nat.le_refl _, Nat.le_refl _⟩ (fun rr I1 P1 => ?_)
    obtain ⟨rfl, f1, o1⟩ := P1
    have fin := K I1 (fun a k q => ?_) ⟨?_, fun p hp2 => ⟨?_, (hP.2 p hp2).2.kept (fun j _ => ?_)⟩, ?_, fun j hj => ?_, ?_⟩ ?_ ⟨o1, ?_, Rw.nil⟩
    · refine V_run D [] 429 rfl trivial ?_
      rcases han with rfl | rfl
      · refine V_eq D 437 rfl rfl (by omega) (fun _ => ?_) (fun q => absurd rfl q)
        refine V_run D [439] 439 rfl trivial ?_
        exact fin _
      · refine V_eq D 437 rfl rfl (by omega) (fun q => absurd q (by decide)) (fun _ => ?_)
        refine V_run D [439] 439 rfl trivial ?_
        exact fin _
    · rw [f1 a k (fun s => q (Or.inl s)), kC a k (fun s => q (Or.inr (Or.inl s))) (fun s => q (Or.inr (Or.inr ⟨by unfold Qb; omega, by unfold Pb; omega⟩))) (fun s => q (Or.inr (Or.inr ⟨by unfold Qb; omega, by unfold Pb; omega⟩)))]
    · rw [f1 _ _ (by unfold Ob; omega), kC _ _ (by omega) (by omega) (by omega)]; exact hP.1
    · rw [f1 _ _ (by unfold Ob; omega), kC _ _ (by omega) (by omega) (by omega)]; exact (hP.2 p hp2).1
    · rw [f1 _ _ (by unfold Ob; omega), kC _ _ (by omega) (by omega) (by omega)]
    · rw [f1 _ _ (by unfold Ob; omega), ← hC2]; dsimp only; rw [List.length_append]; (simp only [xup_ap, true_and, and_true, if_true, if_false]; repeat (first | rw [if_neg (by omega)] | rw [if_pos (by omega)])); omega
    · dsimp only at hj ⊢
      rw [List.length_append] at hj
      rw [f1 _ _ (by unfold Ob; omega)]
      by_cases cj : j < cs.length
      · rw [kC _ _ (by omega) (by omega) (by omega), hC j cj, List.getD_eq_getElem?_getD, List.getD_eq_getElem?_getD, List.getElem?_append_left cj]
      · rw [← hC2, xup_ap, if_neg (by omega), xup_ap, if_neg (by omega), xup_ap, if_neg (by omega), ← hC1, show 400 * r + j = 400 * r + cs.length + (j - cs.length) by omega, cpy_in (by omega), hp _ (by omega), List.getD_eq_getElem?_getD, List.getD_eq_getElem?_getD, List.getElem?_append_right (by omega)]
    · rw [f1 _ _ (by unfold Ob; omega)]; exact t18
    · rw [f1 _ _ (by unfold Ob; omega), ← hC2]; (simp only [xup_ap, true_and, and_true, if_true, if_false]; repeat (first | rw [if_neg (by omega)] | rw [if_pos (by omega)]))
    · rw [f1 _ _ (by unfold Ob; omega), kC _ _ (by omega) (by omega) (by omega)]; exact hA.2.1
  · refine V_run D [] 348 rfl ⟨h.a10 (by omega), h.1, trivial⟩ ?_
    rw [h.n10, show ((1 : Int)).toNat = 1 from rfl, c10 _ (by omega)]
    refine V_ige D 384 rfl rfl (by omega) (by omega) (fun q => absurd q (by omega)) (fun _ => ?_)
    refine V_run D [340] 340 rfl ⟨h.a17 (by omega), h.a11 (by omega), h.1, h.1, trivial⟩ ?_
    rw [h.n11, h.n17, show (400 * (r : Int) + (cs.length : Int) + (k : Int)).toNat = 400 * r + cs.length + k by omega, show ((400 : Int) + (k : Int)).toNat = 400 + k by omega, cpy_out (by omega)]
    have st := cpy_step J (y + 17) (400 * r + cs.length) (fun k => J (y + 11) (400 + k)) k
    rw [st]
    refine V_lv (fun j v hj => ?_) ih
    match j, hj with
    | 0, hj => exact hj
    | 1, hj => exact hj
    | 2, hj => cases hj
    | 3, hj => cases hj
    | 4, hj => exact hj
    | 5, hj => exact hj
    | 6, hj => exact hj
end XRef19
