/-! the reference: its arrays, and what they hold -/
def mda : List (Nat × Nat × Nat) := [(1, 1, 3), (2, 2, 3), (3, 3, 3), (4, 4, 3), (5, 5, 24), (6, 6, 3), (7, 7, 63), (8, 8, 63), (9, 9, 25200), (10, 10, 3), (11, 11, 1200), (14, 12, 2000), (18, 13, 16), (19, 14, 320), (20, 15, 128000), (21, 16, 16), (22, 17, 6400), (23, 18, 16), (27, 19, 10), (28, 20, 80), (29, 21, 80), (30, 22, 80), (31, 23, 160000)]
def MdS (T : xY) (N : xN) (y : Nat) : Prop := T y = some (.inr 10) ∧ ∀ e ∈ mda, N y e.1 = y + e.2.1 ∧ T (y + e.2.1) = some (.inl (1, e.2.2))
section XMdS
variable {T : xY} {N : xN} {y : Nat} {i : Int}
theorem MdS.n1 (h : MdS T N y) : N y 1 = y + 1 := (h.2 (1, 1, 3) (by decide)).1
theorem MdS.a1 (h : MdS T N y) (hi : 0 ≤ i ∧ i < 3) : xAr T (N y 1) 1 i := ⟨3, by rw [h.n1]; exact (h.2 (1, 1, 3) (by decide)).2, hi⟩
theorem MdS.n2 (h : MdS T N y) : N y 2 = y + 2 := (h.2 (2, 2, 3) (by decide)).1
theorem MdS.a2 (h : MdS T N y) (hi : 0 ≤ i ∧ i < 3) : xAr T (N y 2) 1 i := ⟨3, by rw [h.n2]; exact (h.2 (2, 2, 3) (by decide)).2, hi⟩
theorem MdS.n3 (h : MdS T N y) : N y 3 = y + 3 := (h.2 (3, 3, 3) (by decide)).1
theorem MdS.a3 (h : MdS T N y) (hi : 0 ≤ i ∧ i < 3) : xAr T (N y 3) 1 i := ⟨3, by rw [h.n3]; exact (h.2 (3, 3, 3) (by decide)).2, hi⟩
theorem MdS.n4 (h : MdS T N y) : N y 4 = y + 4 := (h.2 (4, 4, 3) (by decide)).1
theorem MdS.a4 (h : MdS T N y) (hi : 0 ≤ i ∧ i < 3) : xAr T (N y 4) 1 i := ⟨3, by rw [h.n4]; exact (h.2 (4, 4, 3) (by decide)).2, hi⟩
theorem MdS.n5 (h : MdS T N y) : N y 5 = y + 5 := (h.2 (5, 5, 24) (by decide)).1
theorem MdS.a5 (h : MdS T N y) (hi : 0 ≤ i ∧ i < 24) : xAr T (N y 5) 1 i := ⟨24, by rw [h.n5]; exact (h.2 (5, 5, 24) (by decide)).2, hi⟩
theorem MdS.n6 (h : MdS T N y) : N y 6 = y + 6 := (h.2 (6, 6, 3) (by decide)).1
theorem MdS.a6 (h : MdS T N y) (hi : 0 ≤ i ∧ i < 3) : xAr T (N y 6) 1 i := ⟨3, by rw [h.n6]; exact (h.2 (6, 6, 3) (by decide)).2, hi⟩
theorem MdS.n7 (h : MdS T N y) : N y 7 = y + 7 := (h.2 (7, 7, 63) (by decide)).1
theorem MdS.a7 (h : MdS T N y) (hi : 0 ≤ i ∧ i < 63) : xAr T (N y 7) 1 i := ⟨63, by rw [h.n7]; exact (h.2 (7, 7, 63) (by decide)).2, hi⟩
theorem MdS.n8 (h : MdS T N y) : N y 8 = y + 8 := (h.2 (8, 8, 63) (by decide)).1
theorem MdS.a8 (h : MdS T N y) (hi : 0 ≤ i ∧ i < 63) : xAr T (N y 8) 1 i := ⟨63, by rw [h.n8]; exact (h.2 (8, 8, 63) (by decide)).2, hi⟩
theorem MdS.n9 (h : MdS T N y) : N y 9 = y + 9 := (h.2 (9, 9, 25200) (by decide)).1
theorem MdS.a9 (h : MdS T N y) (hi : 0 ≤ i ∧ i < 25200) : xAr T (N y 9) 1 i := ⟨25200, by rw [h.n9]; exact (h.2 (9, 9, 25200) (by decide)).2, hi⟩
theorem MdS.n10 (h : MdS T N y) : N y 10 = y + 10 := (h.2 (10, 10, 3) (by decide)).1
theorem MdS.a10 (h : MdS T N y) (hi : 0 ≤ i ∧ i < 3) : xAr T (N y 10) 1 i := ⟨3, by rw [h.n10]; exact (h.2 (10, 10, 3) (by decide)).2, hi⟩
theorem MdS.n11 (h : MdS T N y) : N y 11 = y + 11 := (h.2 (11, 11, 1200) (by decide)).1
theorem MdS.a11 (h : MdS T N y) (hi : 0 ≤ i ∧ i < 1200) : xAr T (N y 11) 1 i := ⟨1200, by rw [h.n11]; exact (h.2 (11, 11, 1200) (by decide)).2, hi⟩
theorem MdS.n12 (h : MdS T N y) : N y 14 = y + 12 := (h.2 (14, 12, 2000) (by decide)).1
theorem MdS.a12 (h : MdS T N y) (hi : 0 ≤ i ∧ i < 2000) : xAr T (N y 14) 1 i := ⟨2000, by rw [h.n12]; exact (h.2 (14, 12, 2000) (by decide)).2, hi⟩
theorem MdS.n13 (h : MdS T N y) : N y 18 = y + 13 := (h.2 (18, 13, 16) (by decide)).1
theorem MdS.a13 (h : MdS T N y) (hi : 0 ≤ i ∧ i < 16) : xAr T (N y 18) 1 i := ⟨16, by rw [h.n13]; exact (h.2 (18, 13, 16) (by decide)).2, hi⟩
theorem MdS.n14 (h : MdS T N y) : N y 19 = y + 14 := (h.2 (19, 14, 320) (by decide)).1
theorem MdS.a14 (h : MdS T N y) (hi : 0 ≤ i ∧ i < 320) : xAr T (N y 19) 1 i := ⟨320, by rw [h.n14]; exact (h.2 (19, 14, 320) (by decide)).2, hi⟩
theorem MdS.n15 (h : MdS T N y) : N y 20 = y + 15 := (h.2 (20, 15, 128000) (by decide)).1
theorem MdS.a15 (h : MdS T N y) (hi : 0 ≤ i ∧ i < 128000) : xAr T (N y 20) 1 i := ⟨128000, by rw [h.n15]; exact (h.2 (20, 15, 128000) (by decide)).2, hi⟩
theorem MdS.n16 (h : MdS T N y) : N y 21 = y + 16 := (h.2 (21, 16, 16) (by decide)).1
theorem MdS.a16 (h : MdS T N y) (hi : 0 ≤ i ∧ i < 16) : xAr T (N y 21) 1 i := ⟨16, by rw [h.n16]; exact (h.2 (21, 16, 16) (by decide)).2, hi⟩
theorem MdS.n17 (h : MdS T N y) : N y 22 = y + 17 := (h.2 (22, 17, 6400) (by decide)).1
theorem MdS.a17 (h : MdS T N y) (hi : 0 ≤ i ∧ i < 6400) : xAr T (N y 22) 1 i := ⟨6400, by rw [h.n17]; exact (h.2 (22, 17, 6400) (by decide)).2, hi⟩
theorem MdS.n18 (h : MdS T N y) : N y 23 = y + 18 := (h.2 (23, 18, 16) (by decide)).1
theorem MdS.a18 (h : MdS T N y) (hi : 0 ≤ i ∧ i < 16) : xAr T (N y 23) 1 i := ⟨16, by rw [h.n18]; exact (h.2 (23, 18, 16) (by decide)).2, hi⟩
theorem MdS.n19 (h : MdS T N y) : N y 27 = y + 19 := (h.2 (27, 19, 10) (by decide)).1
theorem MdS.a19 (h : MdS T N y) (hi : 0 ≤ i ∧ i < 10) : xAr T (N y 27) 1 i := ⟨10, by rw [h.n19]; exact (h.2 (27, 19, 10) (by decide)).2, hi⟩
theorem MdS.n20 (h : MdS T N y) : N y 28 = y + 20 := (h.2 (28, 20, 80) (by decide)).1
theorem MdS.a20 (h : MdS T N y) (hi : 0 ≤ i ∧ i < 80) : xAr T (N y 28) 1 i := ⟨80, by rw [h.n20]; exact (h.2 (28, 20, 80) (by decide)).2, hi⟩
theorem MdS.n21 (h : MdS T N y) : N y 29 = y + 21 := (h.2 (29, 21, 80) (by decide)).1
theorem MdS.a21 (h : MdS T N y) (hi : 0 ≤ i ∧ i < 80) : xAr T (N y 29) 1 i := ⟨80, by rw [h.n21]; exact (h.2 (29, 21, 80) (by decide)).2, hi⟩
theorem MdS.n22 (h : MdS T N y) : N y 30 = y + 22 := (h.2 (30, 22, 80) (by decide)).1
theorem MdS.a22 (h : MdS T N y) (hi : 0 ≤ i ∧ i < 80) : xAr T (N y 30) 1 i := ⟨80, by rw [h.n22]; exact (h.2 (30, 22, 80) (by decide)).2, hi⟩
theorem MdS.n23 (h : MdS T N y) : N y 31 = y + 23 := (h.2 (31, 23, 160000) (by decide)).1
theorem MdS.a23 (h : MdS T N y) (hi : 0 ≤ i ∧ i < 160000) : xAr T (N y 31) 1 i := ⟨160000, by rw [h.n23]; exact (h.2 (31, 23, 160000) (by decide)).2, hi⟩
end XMdS
theorem xup_ap {α : Type} (f : Nat → Nat → α) (a k : Nat) (v : α) (b j : Nat) : xup f a k v b j = if b = a ∧ j = k then v else f b j := by
  by_cases h : b = a
  · subst h
    rw [xup_at]
    by_cases h2 : j = k
    · rw [if_pos ⟨rfl, h2⟩, h2]; exact up_at
    · rw [if_neg (fun q => h2 q.2)]; exact up_ne h2
  · rw [xup_ne h, if_neg (fun q => h q.1)]
/-- only these places may have changed -/
def Fr (S : Nat → Nat → Prop) (I I' : xI) : Prop := ∀ a k, ¬ S a k → I' a k = I a k
theorem Fr.rf {S : Nat → Nat → Prop} {I : xI} : Fr S I I := fun _ _ _ => rfl
theorem Fr.trans {S : Nat → Nat → Prop} {I I' I'' : xI} (h : Fr S I I') (h' : Fr S I' I'') : Fr S I I'' := fun a k q => (h' a k q).trans (h a k q)
theorem Fr.wide {S S' : Nat → Nat → Prop} {I I' : xI} (h : Fr S I I') (hs : ∀ a k, S a k → S' a k) : Fr S' I I' := fun a k q => h a k (fun r => q (hs a k r))
/-- a stretch of an array filled by a function -/
def cpy (I : xI) (a b : Nat) (f : Nat → Int) (n : Nat) : xI := fun c j => if c = a ∧ b ≤ j ∧ j < b + n then f (j - b) else I c j
theorem cpy_0 (I : xI) (a b : Nat) (f : Nat → Int) : cpy I a b f 0 = I := by
  funext c j; unfold cpy; rw [if_neg (by omega)]
theorem cpy_step (I : xI) (a b : Nat) (f : Nat → Int) (n : Nat) : xup (cpy I a b f n) a (b + n) (f n) = cpy I a b f (n + 1) := by
  funext c j
  rw [xup_ap]
  unfold cpy
  by_cases h : c = a ∧ j = b + n
  · rw [if_pos h, if_pos (by omega), show j - b = n by omega]
  · rw [if_neg h]
    by_cases h2 : c = a ∧ b ≤ j ∧ j < b + n
    · rw [if_pos h2, if_pos (by omega)]
    · rw [if_neg h2, if_neg (by omega)]
theorem cpy_out {I : xI} {a b : Nat} {f : Nat → Int} {n c j : Nat} (h : ¬ (c = a ∧ b ≤ j ∧ j < b + n)) : cpy I a b f n c j = I c j := by unfold cpy; rw [if_neg h]
theorem cpy_in {I : xI} {a b : Nat} {f : Nat → Int} {n j : Nat} (h : j < n) : cpy I a b f n a (b + j) = f j := by unfold cpy; rw [if_pos (by omega), show b + j - b = j by omega]
/-- a stretch of an array that holds a list -/
def Rw (A : Nat → Int) (b : Nat) (xs : List Int) : Prop := ∀ j, j < xs.length → A (b + j) = xs.getD j 0
theorem Rw.kept {A A' : Nat → Int} {b : Nat} {xs : List Int} (h : Rw A b xs) (hk : ∀ j, j < xs.length → A' (b + j) = A (b + j)) : Rw A' b xs := fun j hj => (hk j hj).trans (h j hj)
theorem Rw.nil {A : Nat → Int} {b : Nat} : Rw A b [] := fun j hj => by simp at hj
theorem Rw.push {A A' : Nat → Int} {b : Nat} {xs : List Int} {v : Int} (h : Rw A b xs) (hk : ∀ j, j < xs.length → A' (b + j) = A (b + j)) (hv : A' (b + xs.length) = v) : Rw A' b (xs ++ [v]) := by
  intro j hj
  rw [List.length_append, List.length_singleton] at hj
  by_cases h1 : j < xs.length
  · rw [hk j h1, h j h1, List.getD_eq_getElem?_getD, List.getD_eq_getElem?_getD, List.getElem?_append_left h1]
  · obtain rfl : j = xs.length := by omega
    rw [hv, List.getD_eq_getElem?_getD, List.getElem?_append_right (by omega)]; simp
theorem Rw.take {A : Nat → Int} {b : Nat} {xs : List Int} (h : Rw A b xs) (n : Nat) : Rw A b (xs.take n) := fun j hj => by
  rw [List.length_take] at hj
  rw [h j (by omega), List.getD_eq_getElem?_getD, List.getD_eq_getElem?_getD, List.getElem?_take_of_lt (by omega)]
def xMd (z : Nat) (T : xY) (N : xN) (P : Option xV → xI → Prop) : xPo := fun r z' T' I' N' => z' = z ∧ T' = T ∧ N' = N ∧ P r I'
section XMd
variable {Γ : xG} {E : xE} {M M' : xM} {T : xY} {I : xI} {N : xN} {z : Nat} {ce sl pc lev lev' mc ms n idx : Nat} {Q : State → Prop} {lv : xL} {st : List xV} {av : List xV} {P : Option xV → xI → Prop}
theorem V_mdV (D : xD Γ E M lev mc ms) (hm : xMv M' n) (hf : xfe M pc = some (.invokevirtual idx, 3)) (hlk : Cond.methodLink (xRn M.2.2.2.2.1) idx M'.1 ∈ lw_tbl) {a : Nat} (hS : Spec M' lev' (.inr (.inr a) :: av) z T I N 0 0 (xMd z T N P)) (hT : T a = some (.inr M'.2.2.2.2.1))
    (hr : (Nat.blt lev' lev && av.length.beq n && (xwd st).ble 8) = true) (hc : ce ≤ mc ∧ sl ≤ ms) (k : ∀ r I', P r I' → V Γ E Q z T I' N ce sl (pc + 3) lv (r.toList ++ st)) : V Γ E Q z T I N ce sl pc lv (av.reverse ++ .inr (.inr a) :: st) :=
  V_callV D hm hf hlk hS hT hr hc (fun r z' T' I' N' h => by obtain ⟨h1, h2, h3, h4⟩ := h; rw [h1, h2, h3]; exact k r I' h4)
theorem xdn {P : Nat → Prop} (n : Nat) (hn : P n) (hs : ∀ k, k < n → P (k + 1) → P k) : P 0 := by
  have key : ∀ d, d ≤ n → P (n - d) := by
    intro d
    induction d with
    | zero => intro _; exact hn
    | succ d ih => intro hd; exact hs _ (by omega) (by rw [show n - (d + 1) + 1 = n - d by omega]; exact ih (by omega))
  have := key n (Nat.le_refl _)
  rwa [Nat.sub_self] at this
end XMd
/-- an option at a place -/
def En (I : xI) (y i : Nat) (q : Opt) : Prop := I (y + 7) i = q.1 ∧ I (y + 8) i = (q.2.length : Int) ∧ Rw (I (y + 9)) (400 * i) q.2
theorem En.kept {I I' : xI} {y i : Nat} {q : Opt} (h : En I y i q) (hl : q.2.length ≤ 400) (h1 : I' (y + 7) i = I (y + 7) i) (h2 : I' (y + 8) i = I (y + 8) i) (h3 : ∀ k, 400 * i ≤ k → k < 400 * i + 400 → I' (y + 9) k = I (y + 9) k) : En I' y i q := ⟨by rw [h1]; exact h.1, by rw [h2]; exact h.2.1, h.2.2.kept (fun j hj => h3 _ (by omega) (by omega))⟩
/-- the options of a message -/
def OO (I : xI) (y j : Nat) (os : List Opt) : Prop := I (y + 6) j = (os.length : Int) ∧ ∀ k, k < os.length → En I y (21 * j + k) (od os k)
def OL (os : List Opt) : Prop := ∀ k, k < os.length → (0 ≤ (od os k).1 ∧ (od os k).1 ≤ 65535) ∧ (od os k).2.length ≤ 400 ∧ BsOk (od os k).2
/-- where the options of message j lie -/
def Ob (y j a k : Nat) : Prop := (a = y + 6 ∧ k = j) ∨ ((a = y + 7 ∨ a = y + 8) ∧ 21 * j ≤ k ∧ k < 21 * j + 21) ∨ (a = y + 9 ∧ 8400 * j ≤ k ∧ k < 8400 * j + 8400)
section XRef
variable {Γ : xG} {E : xE} {z : Nat} {T : xY} {I : xI} {N : xN} {y m lev : Nat} {os : List Opt}
theorem r_thrown (h : MdS T N y) : Spec mX10_thrown 0 [.inr (.inr y)] z T I N 0 0 (xSame z T I N (some (.inl (I y 0)))) := by
  refine Spec_of okX10_thrown (by decide) (by decide) (Nat.le_of_ble_eq_true rfl) fun Γ E D => ?_
  refine V_run D [] 4 rfl ⟨h.1, trivial⟩ ?_
  exact V_iret D rfl rfl ⟨rfl, rfl, rfl, rfl, rfl⟩
theorem r_refuses {c : Int} (h : MdS T N y) (hc : xIn c) : Spec mX10_refuses 0 [.inr (.inr y), .inl c] z T I N 0 0 (xMd z T N fun r I' => r = some (.inl (if 0 < c then 1 else 0)) ∧ I' = xup I y 0 c) := by
  refine Spec_of okX10_refuses (by decide) (by decide) (Nat.le_of_ble_eq_true rfl) fun Γ E D => ?_
  refine V_run D [] 6 rfl ⟨h.1, trivial⟩ ?_
  refine V_le D 13 rfl rfl hc (fun q => ?_) (fun q => ?_)
  · refine V_run D [] 14 rfl trivial ?_
    exact V_zret D rfl rfl (Or.inl rfl) ⟨rfl, rfl, rfl, by rw [if_neg (by omega)], rfl⟩
  · refine V_run D [] 14 rfl trivial ?_
    exact V_zret D rfl rfl (Or.inr rfl) ⟨rfl, rfl, rfl, by rw [if_pos (by omega)], rfl⟩
def bgI (I : xI) (y m : Nat) (a b c : Int) : xI := xup (xup (xup (xup (xup (xup I (y + 1) m a) (y + 2) m b) (y + 3) m c) (y + 4) m 0) (y + 6) m 0) (y + 10) m 0
theorem r_begins {a b c : Int} (h : MdS T N y) (hm : m < 3) : Spec mX10_begins 0 [.inr (.inr y), .inl (m : Int), .inl a, .inl b, .inl c] z T I N 0 0 (xMd z T N fun r I' => r = none ∧ I' = bgI I y m a b c) := by
  refine Spec_of okX10_begins (by decide) (by decide) (Nat.le_of_ble_eq_true rfl) fun Γ E D => ?_
  refine V_run D [] 43 rfl ⟨h.a10 (by omega), h.1, h.a6 (by omega), h.1, h.a4 (by omega), h.1, h.a3 (by omega), h.1, h.a2 (by omega), h.1, h.a1 (by omega), h.1, trivial⟩ ?_
  rw [h.n1, h.n2, h.n3, h.n4, h.n6, h.n10, Int.toNat_natCast]
  exact V_vret D rfl rfl ⟨rfl, rfl, rfl, rfl, rfl⟩
theorem zLand255 (x : Int) : zLand x 255 = x % 256 := by
  unfold zLand
  have h : (Int64.ofInt x &&& Int64.ofInt 255).toBitVec.toNat = (x % 18446744073709551616).toNat % 256 := by
    rw [Int64.toBitVec_and, BitVec.toNat_and, x64b]
    have e : (Int64.ofInt (255 : Int)).toBitVec.toNat = 2 ^ 8 - 1 := by decide
    rw [e, Nat.and_two_pow_sub_one_eq_mod]
  show (Int64.ofInt x &&& Int64.ofInt 255).toBitVec.toInt = _
  rw [BitVec.toInt_eq_toNat_of_lt (by rw [h]; omega), h]
  omega
theorem r_low {w : Int} {k : Nat} (hk : k < 8) : Spec mX10_low 0 [.inr (.inl w), .inl (k : Int)] z T I N 0 0 (xSame z T I N (some (.inl (lowb w k)))) := by
  refine Spec_of okX10_low (by decide) (by decide) (Nat.le_of_ble_eq_true rfl) fun Γ E D => ?_
  refine V_run D [] 11 rfl trivial ?_
  rw [zLand255, lus_mod w hk]
  exact V_iret D rfl rfl ⟨rfl, rfl, rfl, rfl, rfl⟩
theorem r_more {x : Int} (hx : xIn x) : Spec mX10_more 0 [.inl x] z T I N 0 0 (xSame z T I N (some (.inl (mb x : Int)))) := by
  refine Spec_of okX10_more (by decide) (by decide) (Nat.le_of_ble_eq_true rfl) fun Γ E D => ?_
  refine V_run D [] 3 rfl trivial ?_
  refine V_ige D 10 rfl rfl hx (by omega) (fun q1 => ?_) (fun q1 => ?_)
  · refine V_run D [] 14 rfl trivial ?_
    refine V_ige D 21 rfl rfl hx (by omega) (fun q2 => ?_) (fun q2 => ?_)
    · refine V_run D [] 22 rfl trivial ?_
      exact V_iret D rfl rfl ⟨by unfold mb; rw [if_neg (by omega), if_neg (by omega)]; rfl, rfl, rfl, rfl, rfl⟩
    · refine V_run D [] 22 rfl trivial ?_
      exact V_iret D rfl rfl ⟨by unfold mb; rw [if_neg (by omega), if_pos (by omega)]; rfl, rfl, rfl, rfl, rfl⟩
  · refine V_run D [] 22 rfl trivial ?_
    exact V_iret D rfl rfl ⟨by unfold mb; rw [if_pos (by omega)]; rfl, rfl, rfl, rfl, rfl⟩
theorem r_nibble {x : Int} (hx : xIn x) : Spec mX10_nibble 1 [.inl x] z T I N 0 0 (xSame z T I N (some (.inl (sf x)))) := by
  refine Spec_of okX10_nibble (by decide) (by decide) (Nat.le_of_ble_eq_true rfl) fun Γ E D => ?_
  refine V_run D [] 3 rfl trivial ?_
  refine V_ige D 10 rfl rfl hx (by omega) (fun q1 => ?_) (fun q1 => ?_)
  · refine V_run D [] 13 rfl trivial ?_
    refine V_askS (av := [.inl x]) (st := [.inl 12]) D mwX10_more rfl lkX10_X10_more (r_more hx) rfl ⟨Nat.le_refl _, Nat.le_refl _⟩ ?_
    refine V_run D [] 17 rfl trivial ?_
    exact V_iret D rfl rfl ⟨by unfold sf; rw [if_neg (by omega)], rfl, rfl, rfl, rfl⟩
  · refine V_run D [] 17 rfl trivial ?_
    exact V_iret D rfl rfl ⟨by unfold sf; rw [if_pos (by omega)], rfl, rfl, rfl, rfl⟩
/-- the bytes at hand -/
def HH (I : xI) (y : Nat) (xs : List Int) : Prop := (I y 13 = (xs.length : Int) ∧ xs.length ≤ 2000 ∧ BsOk xs) ∧ Rw (I (y + 12)) 0 xs
def Hb (y a k : Nat) : Prop := (a = y ∧ k = 13) ∨ a = y + 12
theorem HH.kept {I I' : xI} {y : Nat} {xs : List Int} (h : HH I y xs) (h1 : I' y 13 = I y 13) (h2 : ∀ k, k < 2000 → I' (y + 12) k = I (y + 12) k) : HH I' y xs := ⟨⟨by rw [h1]; exact h.1.1, h.1.2⟩, h.2.kept (fun j hj => h2 _ (by have := h.1.2.1; omega))⟩
theorem BsOk.snoc {xs : List Int} {b : Int} (h : BsOk xs) (hb : 0 ≤ b ∧ b < 256) : BsOk (xs ++ [b]) := fun v hv => by
  rcases List.mem_append.mp hv with q | q
  · exact h v q
  · rw [List.mem_singleton.mp q]; exact hb
theorem r_put {xs : List Int} {b : Int} (h : MdS T N y) (hH : HH I y xs) (hl : xs.length < 2000) (hb : 0 ≤ b ∧ b < 256) : Spec mX10_put 0 [.inr (.inr y), .inl b] z T I N 0 0 (xMd z T N fun r I' => r = none ∧ Fr (Hb y) I I' ∧ HH I' y (xs ++ [b])) := by
  refine Spec_of okX10_put (by decide) (by decide) (Nat.le_of_ble_eq_true rfl) fun Γ E D => ?_
  have e := hH.1.1
  refine V_run D [] 20 rfl ⟨h.1, h.1, by rw [e]; exact h.a12 (by omega), h.1, h.1, trivial⟩ ?_
  rw [h.n12, xup_ne (show y ≠ y + 12 by omega), e, Int.toNat_natCast]
  refine V_vret D rfl rfl ⟨rfl, rfl, rfl, rfl, fun a k q => ?_, ⟨?_, by simp; omega, hH.1.2.2.snoc hb⟩, hH.2.push (fun j hj => ?_) ?_⟩
  · unfold Hb at q; (simp only [xup_ap, true_and, and_true, if_true, if_false]; repeat (first | rw [if_neg (by omega)] | rw [if_pos (by omega)]))
  · rw [xup_ap, if_pos (by omega)]; simp
  · (simp only [xup_ap, true_and, and_true, if_true, if_false]; repeat (first | rw [if_neg (by omega)] | rw [if_pos (by omega)]))
  · (simp only [xup_ap, true_and, and_true, if_true, if_false]; repeat (first | rw [if_neg (by omega)] | rw [if_pos (by omega)]))
theorem r_extra {xs : List Int} {v : Int} (h : MdS T N y) (hH : HH I y xs) (hv : 0 ≤ v ∧ v < 65805) (hl : xs.length + (wm v).length ≤ 2000) : Spec mX10_extra 1 [.inr (.inr y), .inl v] z T I N 0 0 (xMd z T N fun r I' => r = none ∧ Fr (Hb y) I I' ∧ HH I' y (xs ++ wm v)) := by
  rw [wm_len] at hl
  refine Spec_of okX10_extra (by decide) (by decide) (Nat.le_of_ble_eq_true rfl) fun Γ E D => ?_
  refine V_run D [] 4 rfl trivial ?_
  refine V_ile D 35 rfl rfl (by omega) (by omega) (fun q1 => ?_) (fun q1 => ?_)
  · refine V_run D [] 38 rfl trivial ?_
    refine V_ile D 49 rfl rfl (by omega) (by omega) (fun q2 => ?_) (fun q2 => ?_)
    · have e : wm v = [] := by
        have e0 : mb v = 0 := by unfold mb; rw [if_pos (by omega)]
        unfold wm; rw [e0]; rfl
      rw [e, List.append_nil]
      exact V_vret D rfl rfl ⟨rfl, rfl, rfl, rfl, Fr.rf, hH⟩
    · have e0 : mb v = 1 := by unfold mb; rw [if_neg (by omega), if_pos (by omega)]
      have e : wm v = [v - 13] := by
        unfold wm; rw [e0, if_pos rfl]; unfold hib lowb
        simp; omega
      rw [e0] at hl
      rw [e]
      refine V_run D [] 46 rfl trivial ?_
      refine V_mdV (av := [.inl (v - 13)]) (st := []) D mwX10_put rfl lkX10_X10_put (r_put h hH (by omega) (by omega)) h.1 rfl ⟨Nat.le_refl _, Nat.le_refl _⟩ (fun r I1 P1 => ?_)
      obtain ⟨rfl, f1, h1⟩ := P1
      exact V_vret D rfl rfl ⟨rfl, rfl, rfl, rfl, f1, h1⟩
  · have e0 : mb v = 2 := by unfold mb; rw [if_neg (by omega), if_neg (by omega)]
    have e : wm v = [(v - 269) / 256, (v - 269) % 256] := by
      unfold wm; rw [e0, if_neg (by decide)]; unfold hib lowb
      simp [List.range_succ]; omega
    rw [e0] at hl
    rw [e]
    refine V_run D [] 16 rfl trivial ?_
    rw [show zShr (v - 269) 8 = (v - 269) / 256 from zShr_nat (k := 8) (by omega) (by decide)]
    refine V_mdV (av := [.inl ((v - 269) / 256)]) (st := []) D mwX10_put rfl lkX10_X10_put (r_put h hH (by omega) (by omega)) h.1 rfl ⟨Nat.le_refl _, Nat.le_refl _⟩ (fun r I1 P1 => ?_)
    obtain ⟨rfl, f1, h1⟩ := P1
    refine V_run D [] 29 rfl trivial ?_
    rw [zAnd255]
    refine V_mdV (av := [.inl ((v - 269) % 256)]) (st := []) D mwX10_put rfl lkX10_X10_put (r_put h h1 (by simp; omega) (by omega)) h.1 rfl ⟨Nat.le_refl _, Nat.le_refl _⟩ (fun r I2 P2 => ?_)
    obtain ⟨rfl, f2, h2⟩ := P2
    refine V_run D [] 49 rfl trivial ?_
    exact V_vret D rfl rfl ⟨rfl, rfl, rfl, rfl, f1.trans f2, by simpa using h2⟩
end XRef
