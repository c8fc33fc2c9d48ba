/-- resource r; the resources; an answer kept; the answers kept; the counters -/
def RB (I : xI) (y r : Nat) (x : Res) : Prop := I (y + 13) r = (x.1.length : Int) ∧ (∀ p, p < x.1.length → I (y + 14) (20 * r + p) = ((x.1.getD p []).length : Int) ∧ Rw (I (y + 15)) (400 * (20 * r + p)) (x.1.getD p [])) ∧ I (y + 16) r = (x.2.1.length : Int) ∧ Rw (I (y + 17)) (400 * r) x.2.1 ∧ I (y + 18) r = x.2.2
def RR (I : xI) (y : Nat) (rs : List Res) (tags : Int) : Prop := I y 16 = (rs.length : Int) ∧ I y 17 = tags ∧ ∀ r, r < rs.length → RB I y r (rsd rs r)
def SB (I : xI) (y i : Nat) (q : Opt) : Prop := I (y + 20) i = q.1 ∧ I (y + 21) i = (q.2.length : Int) ∧ I (y + 22) i = bat q.2 1 ∧ Rw (I (y + 23)) (2000 * i) q.2
def SS (I : xI) (y : Nat) (s : Nat → List Opt × Nat) : Prop := ∀ p, p < 10 → I (y + 19) p = ((s p).2 : Int) ∧ ∀ k, k < 8 → k < (s p).2 → SB I y (8 * p + k) (od (s p).1 k)
def CC (I : xI) (y : Nat) (c : Int × Int × Int) : Prop := I y 24 = c.1 ∧ I y 25 = c.2.1 ∧ I y 26 = c.2.2
def LL (I : xI) (y n : Nat) (lat : Option Nat) : Prop := match lat with
  | none => I y 12 = -1
  | some l => I y 12 = (l : Int) ∧ l < n
def MdAt (T : xY) (I : xI) (N : xN) (y : Nat) (x : Dk) : Prop := MdS T N y ∧ HH I y x.1 ∧ (MM I y 0 x.2.1.1 ∧ x.2.1.1.2.2.2.2.1.length ≤ 20 ∧ LL I y x.2.1.1.2.2.2.2.1.length x.2.1.2) ∧ RR I y x.2.2.1.1 x.2.2.1.2 ∧ CC I y x.2.2.2.1 ∧ SS I y x.2.2.2.2
def Rb (y a k : Nat) : Prop := (a = y ∧ (k = 16 ∨ k = 17)) ∨ (y + 13 ≤ a ∧ a ≤ y + 18)
def Sb (y a : Nat) : Prop := y + 19 ≤ a ∧ a ≤ y + 23
def Cb (y a k : Nat) : Prop := a = y ∧ 24 ≤ k ∧ k ≤ 26
section XKp
variable {I I' : xI} {y r i : Nat}
theorem RB.kept {x : Res} (h : RB I y r x) (hk : ∀ a k, y + 13 ≤ a → a ≤ y + 18 → I' a k = I a k) : RB I' y r x := by
  obtain ⟨h1, h2, h3, h4, h5⟩ := h
  refine ⟨by rw [hk _ _ (by omega) (by omega)]; exact h1, fun p hp => ⟨by rw [hk _ _ (by omega) (by omega)]; exact (h2 p hp).1, (h2 p hp).2.kept (fun j _ => hk _ _ (by omega) (by omega))⟩, by rw [hk _ _ (by omega) (by omega)]; exact h3, h4.kept (fun j _ => hk _ _ (by omega) (by omega)), by rw [hk _ _ (by omega) (by omega)]; exact h5⟩
theorem RR.kept {rs : List Res} {tags : Int} (h : RR I y rs tags) (hk : ∀ a k, Rb y a k → I' a k = I a k) : RR I' y rs tags :=
  ⟨by rw [hk _ _ (by unfold Rb; omega)]; exact h.1, by rw [hk _ _ (by unfold Rb; omega)]; exact h.2.1, fun r hr => (h.2.2 r hr).kept (fun a k h1 h2 => hk a k (Or.inr ⟨h1, h2⟩))⟩
theorem SB.kept {q : Opt} (h : SB I y i q) (hk : ∀ a k, Sb y a → I' a k = I a k) : SB I' y i q := by
  obtain ⟨h1, h2, h3, h4⟩ := h
  exact ⟨by rw [hk _ _ (by unfold Sb; omega)]; exact h1, by rw [hk _ _ (by unfold Sb; omega)]; exact h2, by rw [hk _ _ (by unfold Sb; omega)]; exact h3, h4.kept (fun j _ => hk _ _ (by unfold Sb; omega))⟩
theorem SS.kept {s : Nat → List Opt × Nat} (h : SS I y s) (hk : ∀ a k, Sb y a → I' a k = I a k) : SS I' y s := fun p hp => ⟨by rw [hk _ _ (by unfold Sb; omega)]; exact (h p hp).1, fun k h1 h2 => ((h p hp).2 k h1 h2).kept hk⟩
theorem CC.kept {c : Int × Int × Int} (h : CC I y c) (hk : ∀ a k, Cb y a k → I' a k = I a k) : CC I' y c := ⟨by rw [hk _ _ (by unfold Cb; omega)]; exact h.1, by rw [hk _ _ (by unfold Cb; omega)]; exact h.2.1, by rw [hk _ _ (by unfold Cb; omega)]; exact h.2.2⟩
theorem LL.kept {n : Nat} {lat : Option Nat} (h : LL I y n lat) (hk : I' y 12 = I y 12) : LL I' y n lat := by
  cases lat with
  | none => exact hk.trans h
  | some l => exact ⟨hk.trans h.1, h.2⟩
end XKp
/-- what a call of the reference may change, and what it leaves of a desk when no more than these do -/
def Kp (y a k : Nat) : Prop := (a = y ∧ (k = 12 ∨ k = 13)) ∨ Rb y a k ∨ Cb y a k ∨ Mb y 0 a k ∨ a = y + 12 ∨ Sb y a
theorem MdAt.kept {T : xY} {I I' : xI} {N : xN} {y : Nat} {x : Dk} (h : MdAt T I N y x) (hok : MOk x.2.1.1) (hk : ∀ a k, Kp y a k → I' a k = I a k) : MdAt T I' N y x := by
  obtain ⟨h1, h2, ⟨h3, h4, h5⟩, h6, h7, h8⟩ := h
  exact ⟨h1, h2.kept (hk _ _ (by unfold Kp; omega)) (fun k _ => hk _ _ (by unfold Kp; omega)), ⟨h3.kept hok h4 (fun a k q => hk _ _ (by unfold Kp; exact Or.inr (Or.inr (Or.inr (Or.inl q))))), h4, h5.kept (hk _ _ (by unfold Kp; omega))⟩, h6.kept (fun a k q => hk _ _ (Or.inr (Or.inl q))), h7.kept (fun a k q => hk _ _ (Or.inr (Or.inr (Or.inl q)))), h8.kept (fun a k q => hk _ _ (by unfold Kp; exact Or.inr (Or.inr (Or.inr (Or.inr (Or.inr q))))))⟩
def MdP (z : Nat) (T : xY) (I : xI) (N : xN) (y : Nat) (v : Int → Option xV) (o : Nat × Int × Dk) : xPo := xMd z T N fun r I' => r = v o.2.1 ∧ I' y 0 = (o.1 : Int) ∧ (∀ a, (a < y ∨ y + 24 ≤ a) → I' a = I a) ∧ MdAt T I' N y o.2.2
theorem xup_0 {I : xI} {y : Nat} {c : Int} : xup I y 0 c y 0 = c := by rw [xup_ap, if_pos ⟨rfl, rfl⟩]
section XRef4
variable {Γ : xG} {E : xE} {M : xM} {z : Nat} {T : xY} {I : xI} {N : xN} {y m lev mc ms ce sl pc idx : Nat} {os : List Opt} {g : Msg} {x : Dk} {xs : List Int} {Q : State → Prop} {lv : xL}
/-- nothing but the code has changed -/
theorem MdAt.code (h : MdAt T I N y x) (hok : MOk x.2.1.1) (c : Int) : MdAt T (xup I y 0 c) N y x := h.kept hok (fun a k q => by unfold Kp Rb Cb Mb Ob Sb at q; rw [xup_ap, if_neg (by omega)])
theorem MdP.no (h : MdAt T I N y x) (hok : MOk x.2.1.1) {v : Int → Option xV} {r : Option xV} (k : Nat) (hr : r = v 0) : MdP z T I N y v (k, 0, x) r z T (xup I y 0 (k : Int)) N := ⟨rfl, rfl, rfl, hr, xup_0, fun a ha => xup_ne (by omega), h.code hok _⟩
theorem V_ref0 (D : xD Γ E M lev mc ms) (h : MdS T N y) (hf : xfe M pc = some (.invokevirtual idx, 3)) (hlk : Cond.methodLink (xRn M.2.2.2.2.1) idx mX10_refuses.1 ∈ lw_tbl) (tgt : Nat) {off : Int} (hg : xfe M (pc + 3) = some (.ifCond .eq off, 3)) (ht : ((pc + 3 : Nat) : Int) + off = (tgt : Int)) (hr : Nat.blt 0 lev = true) (hc : ce ≤ mc ∧ sl ≤ ms) (k : V Γ E Q z T (xup I y 0 0) N ce sl tgt lv []) : V Γ E Q z T I N ce sl pc lv [.inl 0, .inr (.inr y)] := by
  refine V_mdV (av := [.inl 0]) (st := []) D mwX10_refuses hf hlk (r_refuses h (by omega)) h.1 (by rw [hr]; rfl) hc (fun r I' P => ?_)
  obtain ⟨rfl, rfl⟩ := P
  exact V_eq D tgt hg ht (by rw [if_neg (by omega)]; omega) (fun _ => k) (fun q => absurd (if_neg (by omega)) q)
theorem V_ref1 (D : xD Γ E M lev mc ms) (h : MdS T N y) (hf : xfe M pc = some (.invokevirtual idx, 3)) (hlk : Cond.methodLink (xRn M.2.2.2.2.1) idx mX10_refuses.1 ∈ lw_tbl) {c : Int} (hcc : 0 < c ∧ c ≤ 2) (tgt : Nat) {off : Int} (hg : xfe M (pc + 3) = some (.ifCond .eq off, 3)) (ht : ((pc + 3 : Nat) : Int) + off = (tgt : Int)) (hr : Nat.blt 0 lev = true) (hc : ce ≤ mc ∧ sl ≤ ms) (k : V Γ E Q z T (xup I y 0 c) N ce sl (pc + 3 + 3) lv []) : V Γ E Q z T I N ce sl pc lv [.inl c, .inr (.inr y)] := by
  refine V_mdV (av := [.inl c]) (st := []) D mwX10_refuses hf hlk (r_refuses h (by omega)) h.1 (by rw [hr]; rfl) hc (fun r I' P => ?_)
  obtain ⟨rfl, rfl⟩ := P
  exact V_eq D tgt hg ht (by rw [if_pos (by omega)]; omega) (fun q => absurd q (by rw [if_pos (by omega)]; omega)) (fun _ => k)
theorem lows_at {w n : Int} {j : Nat} (h : j < n.toNat) : (lows w n).getD j 0 = lowb w j := by unfold lows; simp [h]
theorem r_begin {ty co id w n : Int} (h : MdAt T I N y x) (hok : MOk x.2.1.1) (h1 : xIn ty) (h2 : xIn co) (h3 : xIn id) (h4 : xIn n) : Spec mX10_begin 1 [.inr (.inr y), .inl ty, .inl co, .inl id, .inr (.inl w), .inl n] z T I N 0 0 (MdP z T I N y rV (dBegin x ty co id w n)) := by
  have hS := h.1
  refine Spec_of okX10_begin (by decide) (by decide) (Nat.le_of_ble_eq_true rfl) fun Γ E D => ?_
  have bad : ¬ ((0 ≤ ty ∧ ty ≤ 3) ∧ (0 ≤ co ∧ co ≤ 255) ∧ (0 ≤ id ∧ id ≤ 65535) ∧ 0 ≤ n ∧ n ≤ 8) → V Γ E (xQ Γ E (MdP z T I N y rV (dBegin x ty co id w n)) 0 0) z T I N 0 0 46 (xlv [some (.inr (.inr y)), some (.inl ty), some (.inl co), some (.inl id), some (.inr (.inl w)), none, some (.inl n)]) [] := fun hc => by
    have e : dBegin x ty co id w n = (1, 0, x) := by unfold dBegin; rw [if_neg hc]
    rw [e]
    refine V_run D [] 52 rfl trivial ?_
    refine V_eq D 59 rfl rfl (by omega) (fun _ => ?_) (fun q => absurd rfl q)
    refine V_run D [] 60 rfl trivial ?_
    refine V_ref1 D hS rfl lkX10_X10_refuses (by omega) 67 rfl rfl rfl ⟨Nat.le_refl _, Nat.le_refl _⟩ ?_
    exact V_vret D rfl rfl (MdP.no h hok 1 rfl)
  refine V_loc [some (.inr (.inr y)), some (.inl ty), some (.inl co), some (.inl id), some (.inr (.inl w)), none, some (.inl n)] rfl ?_
  refine V_run D [] 1 rfl trivial ?_
  refine V_lt D 46 rfl rfl h1 (fun q => bad (by omega)) (fun c1 => ?_)
  refine V_run D [] 6 rfl trivial ?_
  refine V_igt D 46 rfl rfl h1 (by omega) (fun q => bad (by omega)) (fun c2 => ?_)
  refine V_run D [] 10 rfl trivial ?_
  refine V_lt D 46 rfl rfl h2 (fun q => bad (by omega)) (fun c3 => ?_)
  refine V_run D [] 17 rfl trivial ?_
  refine V_igt D 46 rfl rfl h2 (by omega) (fun q => bad (by omega)) (fun c4 => ?_)
  refine V_run D [] 21 rfl trivial ?_
  refine V_lt D 46 rfl rfl h3 (fun q => bad (by omega)) (fun c5 => ?_)
  refine V_run D [] 27 rfl trivial ?_
  refine V_igt D 46 rfl rfl h3 (by omega) (fun q => bad (by omega)) (fun c6 => ?_)
  refine V_run D [] 32 rfl trivial ?_
  refine V_lt D 46 rfl rfl h4 (fun q => bad (by omega)) (fun c7 => ?_)
  refine V_run D [] 39 rfl trivial ?_
  refine V_igt D 46 rfl rfl h4 (by omega) (fun q => bad (by omega)) (fun c8 => ?_)
  have e : dBegin x ty co id w n = (0, 0, (x.1, ((ty, co, id, lows w n, [], []), none), x.2.2)) := by unfold dBegin; rw [if_pos (by omega)]
  rw [e]
  refine V_run D [] 52 rfl trivial ?_
  refine V_eq D 59 rfl rfl (by omega) (fun q => absurd q (by decide)) (fun _ => ?_)
  refine V_run D [] 60 rfl trivial ?_
  refine V_ref0 D hS rfl lkX10_X10_refuses 67 rfl rfl rfl ⟨Nat.le_refl _, Nat.le_refl _⟩ ?_
  refine V_run D [] 72 rfl trivial ?_
  refine V_mdV (av := [.inl ((0 : Nat) : Int), .inl ty, .inl co, .inl id]) (st := []) D mwX10_begins rfl lkX10_X10_begins (r_begins hS (by omega)) hS.1 rfl ⟨Nat.le_refl _, Nat.le_refl _⟩ (fun r I1 P1 => ?_)
  obtain ⟨rfl, rfl⟩ := P1
  refine V_run D [91] 91 rfl ⟨hS.a4 (by omega), hS.1, hS.1, trivial⟩ ?_
  rw [hS.n4, show ((0 : Int)).toNat = 0 from rfl]
  generalize hJ : xup (xup (bgI (xup I y 0 0) y 0 ty co id) y 12 (-1)) (y + 4) 0 n = J
  obtain ⟨n', rfl⟩ : ∃ n' : Nat, n = (n' : Int) := ⟨n.toNat, by omega⟩
  rw [← cpy_0 J (y + 5) 0 (lowb w)]
  refine V_loc [some (.inr (.inr y)), some (.inl ty), some (.inl co), some (.inl id), some (.inr (.inl w)), none, some (.inl (n' : Int)), some (.inl 1), some (.inl ((0 : Nat) : Int))] rfl ?_
  refine xdn (P := fun i => V Γ E (xQ Γ E (MdP z T I N y rV (0, 0, (x.1, ((ty, co, id, lows w (n' : Int), [], []), none), x.2.2))) 0 0) z T (cpy J (y + 5) 0 (lowb w) i) N 0 0 91 (xlv [some (.inr (.inr y)), some (.inl ty), some (.inl co), some (.inl id), some (.inr (.inl w)), none, some (.inl (n' : Int)), some (.inl 1), some (.inl (i : Int))]) []) n' ?_ (fun i hi ih => ?_)
  · refine V_run D [] 95 rfl trivial ?_
    refine V_ige D 118 rfl rfl (by omega) (by omega) (fun _ => ?_) (fun q => absurd q (by omega))
    have k0 : ∀ a k, ¬ Mb y 0 a k → ¬ (a = y ∧ (k = 0 ∨ k = 12)) → cpy J (y + 5) 0 (lowb w) n' a k = I a k := fun a k q1 q2 => by
      unfold Mb Ob at q1
      rw [cpy_out (by omega), ← hJ]
      unfold bgI
      (simp only [xup_ap, true_and, and_true, if_true, if_false]; repeat (first | rw [if_neg (by omega)] | rw [if_pos (by omega)]))
    obtain ⟨g1, g2, ⟨g3, g4, g5⟩, g6, g7, g8⟩ := h
    refine V_vret D rfl rfl ⟨rfl, rfl, rfl, rfl, ?_, fun a ha => funext fun k => k0 a k (by unfold Mb Ob; omega) (by omega), hS, g2.kept (k0 _ _ (by unfold Mb Ob; omega) (by omega)) (fun k _ => k0 _ _ (by unfold Mb Ob; omega) (by omega)), ⟨⟨⟨?_, ?_, ?_⟩, ⟨?_, fun j hj => ?_⟩, ⟨?_, fun k hk => by simp at hk⟩, ?_, Rw.nil⟩, by simp, ?_⟩, g6.kept (fun a k q => k0 a k (by unfold Rb at q; unfold Mb Ob; omega) (by unfold Rb at q; omega)), g7.kept (fun a k q => k0 a k (by unfold Cb at q; unfold Mb Ob; omega) (by unfold Cb at q; omega)), g8.kept (fun a k q => k0 a k (by unfold Sb at q; unfold Mb Ob; omega) (by unfold Sb at q; omega))⟩
    · rw [cpy_out (by omega), ← hJ]; unfold bgI; (simp only [xup_ap, true_and, and_true, if_true, if_false]; repeat (first | rw [if_neg (by omega)] | rw [if_pos (by omega)])); rfl
    · rw [cpy_out (by omega), ← hJ]; unfold bgI; (simp only [xup_ap, true_and, and_true, if_true, if_false]; repeat (first | rw [if_neg (by omega)] | rw [if_pos (by omega)]))
    · rw [cpy_out (by omega), ← hJ]; unfold bgI; (simp only [xup_ap, true_and, and_true, if_true, if_false]; repeat (first | rw [if_neg (by omega)] | rw [if_pos (by omega)]))
    · rw [cpy_out (by omega), ← hJ]; unfold bgI; (simp only [xup_ap, true_and, and_true, if_true, if_false]; repeat (first | rw [if_neg (by omega)] | rw [if_pos (by omega)]))
    · rw [cpy_out (by omega), ← hJ, lows_len]; unfold bgI; (simp only [xup_ap, true_and, and_true, if_true, if_false]; repeat (first | rw [if_neg (by omega)] | rw [if_pos (by omega)])); rfl
    · rw [lows_len] at hj
      rw [Nat.mul_zero, cpy_in (by omega), lows_at hj]
    · rw [cpy_out (by omega), ← hJ]; unfold bgI; (simp only [xup_ap, true_and, and_true, if_true, if_false]; repeat (first | rw [if_neg (by omega)] | rw [if_pos (by omega)])); rfl
    · rw [cpy_out (by omega), ← hJ]; unfold bgI; (simp only [xup_ap, true_and, and_true, if_true, if_false]; repeat (first | rw [if_neg (by omega)] | rw [if_pos (by omega)])); rfl
    · show cpy J (y + 5) 0 (lowb w) n' y 12 = -1
      rw [cpy_out (by omega), ← hJ]; unfold bgI; (simp only [xup_ap, true_and, and_true, if_true, if_false]; repeat (first | rw [if_neg (by omega)] | rw [if_pos (by omega)]))
  · refine V_run D [] 95 rfl trivial ?_
    refine V_ige D 118 rfl rfl (by omega) (by omega) (fun q => absurd q (by omega)) (fun _ => ?_)
    refine V_run D [] 108 rfl ⟨hS.1, trivial⟩ ?_
    refine V_askS (av := [.inr (.inl w), .inl (i : Int)]) (st := [.inl (i : Int), .inr (.inr (N y 5))]) D mwX10_low rfl lkX10_X10_low (r_low (by omega)) rfl ⟨Nat.le_refl _, Nat.le_refl _⟩ ?_
    refine V_run D [91] 91 rfl ⟨hS.a5 (by omega), trivial⟩ ?_
    rw [hS.n5, Int.toNat_natCast]
    have st := cpy_step J (y + 5) 0 (lowb w) i
    rw [Nat.zero_add] at st
    rw [st]
    exact V_loc [some (.inr (.inr y)), some (.inl ty), some (.inl co), some (.inl id), some (.inr (.inl w)), none, some (.inl (n' : Int)), some (.inl 1), some (.inl ((i + 1 : Nat) : Int))] rfl ih
end XRef4
