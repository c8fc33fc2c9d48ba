/-- the answer's options and payload -/
def AA (I : xI) (y : Nat) (o : List Opt × List Int) : Prop := OO I y 2 o.1 ∧ I (y + 10) 2 = (o.2.length : Int) ∧ Rw (I (y + 11)) 800 o.2
def Ab (y a k : Nat) : Prop := Ob y 2 a k ∨ (a = y + 10 ∧ k = 2) ∨ (a = y + 11 ∧ 800 ≤ k ∧ k < 1200)
theorem hib3 (x : Int) : hib x 3 = [x / 65536 % 256, x / 256 % 256, x % 256] := by unfold hib lowb; simp [List.range_succ]
theorem hib1 (x : Int) : hib x 1 = [x % 256] := by unfold hib lowb; simp [List.range_succ]
theorem hib0 (x : Int) : hib x 0 = [] := rfl
def bfold (b : Int) (os : List Opt) : Int := os.foldl (fun b q => if q.1 = 23 then wn q.2 else b) b
theorem bfold_snoc {os : List Opt} {i : Nat} {b : Int} (h : i < os.length) : bfold b (os.take (i + 1)) = if (od os i).1 = 23 then wn (od os i).2 else bfold b (os.take i) := by unfold bfold; rw [otake_snoc h, List.foldl_append]; rfl
theorem cnt_cons (k : Int) (q : Opt) (r : List Opt) : cnt k (q :: r) = cnt k r + (if q.1 = k then 1 else 0) := by unfold cnt; simp [List.countP_cons]
theorem fi_cons (k : Int) (q : Opt) (r : List Opt) : fi k (q :: r) = if q.1 = k then 0 else fi k r + 1 := by
  unfold fi; rw [List.findIdx_cons]
  show (bif (q.1 == k) then 0 else _) = _
  by_cases h : q.1 = k
  · rw [if_pos h, beq_iff_eq.mpr h]; rfl
  · rw [if_neg h, beq_false_of_ne h]; rfl
theorem bfold_0 : ∀ {os : List Opt} {b : Int}, cnt 23 os = 0 → bfold b os = b
  | [], _, _ => rfl
  | q :: r, b, h => by
    rw [cnt_cons] at h
    by_cases c : q.1 = 23
    · rw [if_pos c] at h; omega
    · rw [if_neg c] at h
      show bfold (if q.1 = 23 then wn q.2 else b) r = b
      rw [if_neg c]; exact bfold_0 (by omega)
theorem bfold_eq : ∀ {os : List Opt} {b : Int}, cnt 23 os ≤ 1 → bfold b os = if fi 23 os < os.length then wn (od os (fi 23 os)).2 else b
  | [], _, _ => rfl
  | q :: r, b, h => by
    rw [cnt_cons] at h
    rw [fi_cons]
    show bfold (if q.1 = 23 then wn q.2 else b) r = _
    by_cases c : q.1 = 23
    · rw [if_pos c] at h ⊢
      rw [if_pos c, if_pos (by simp)]
      exact bfold_0 (by omega)
    · rw [if_neg c] at h ⊢
      rw [if_neg c, bfold_eq (by omega)]
      have e : od (q :: r) (fi 23 r + 1) = od r (fi 23 r) := by unfold od; simp
      rw [e, List.length_cons]
      by_cases c2 : fi 23 r < r.length
      · rw [if_pos c2, if_pos (by omega)]
      · rw [if_neg c2, if_neg (by omega)]
theorem zShl16 {s : Int} (h : 0 ≤ s ∧ s ≤ 6) : zShl 16 s = 16 * (2 ^ s.toNat : Nat) := by
  rcases (by omega : s = 0 ∨ s = 1 ∨ s = 2 ∨ s = 3 ∨ s = 4 ∨ s = 5 ∨ s = 6) with r | r | r | r | r | r | r <;> subst r <;> rfl
section XRef15
variable {Γ : xG} {E : xE} {M : xM} {z : Nat} {T : xY} {I J : xI} {N : xN} {y m lev mc ms ce sl pc idx i p r n : Nat} {os : List Opt} {g : Msg} {w : Res} {xs v : List Int} {Q : State → Prop} {lv : xL} {q : Opt} {rs : List Res}
theorem r_tells {t : Int} (h : MdS T N y) (hr : r < 16) (ht : I (y + 18) r = t) (hb : 0 ≤ t ∧ t ≤ 65535) (hO : OO I y 2 []) : Spec mX10_tells 1 [.inr (.inr y), .inl (r : Int)] z T I N 0 0 (xMd z T N fun rr I' => rr = none ∧ Fr (Ob y 2) I I' ∧ OO I' y 2 [(4, hib t 2)]) := by
  have nl : OL [] := fun k hk => by simp at hk
  have b1 : ∀ v : List Int, v.length ≤ 2 → BsOk v → OL [(4, v)] := fun v hv ok k hk => by
    have : k = 0 := by simpa using hk
    subst this
    exact ⟨by show (0 : Int) ≤ 4 ∧ (4 : Int) ≤ 65535; omega, by show v.length ≤ 400; omega, ok⟩
  refine Spec_of okX10_tells (by decide) (by decide) (Nat.le_of_ble_eq_true rfl) fun Γ E D => ?_
  refine V_run D [] 3 rfl trivial ?_
  refine V_mdV (av := [.inl ((2 : Nat) : Int), .inl 4]) (st := []) D mwX10_place rfl lkX10_X10_place (r_place h (by omega) hO nl (by simp) (by omega)) h.1 rfl ⟨Nat.le_refl _, Nat.le_refl _⟩ (fun rr I1 P1 => ?_)
  obtain ⟨rfl, f1, o1⟩ := P1
  have o1' : OO I1 y 2 [(4, [])] := o1
  have t1 : I1 (y + 18) r = t := by rw [f1 _ _ (by unfold Ob; omega)]; exact ht
  refine V_run D [] 18 rfl ⟨h.a18 (by omega), h.1, trivial⟩ ?_
  rw [h.n18, Int.toNat_natCast, t1, show zShr t 8 = t / 256 from zShr_nat (k := 8) (by omega) (by decide)]
  refine V_mdV (av := [.inl ((21 * 2 + 0 : Nat) : Int), .inl (t / 256)]) (st := []) D mwX10_longer rfl lkX10_X10_longer (r_longer h (by omega) o1' (b1 [] (by simp) BsOk.nil) (by simp) (by simp) (by simp [od])) h.1 rfl ⟨Nat.le_refl _, Nat.le_refl _⟩ (fun rr I2 P2 => ?_)
  obtain ⟨rfl, f2, o2⟩ := P2
  have o2' : OO I2 y 2 [(4, [t / 256])] := o2
  have t2 : I2 (y + 18) r = t := by rw [f2 _ _ (by unfold Ob; omega)]; exact t1
  refine V_run D [] 33 rfl ⟨h.a18 (by omega), h.1, trivial⟩ ?_
  rw [h.n18, Int.toNat_natCast, t2, zAnd255]
  refine V_mdV (av := [.inl ((21 * 2 + 0 : Nat) : Int), .inl (t % 256)]) (st := []) D mwX10_longer rfl lkX10_X10_longer (r_longer h (by omega) o2' (b1 [t / 256] (by simp) (fun v hv => by rw [List.mem_singleton.mp hv]; omega)) (by simp) (by simp) (by simp [od])) h.1 rfl ⟨Nat.le_refl _, Nat.le_refl _⟩ (fun rr I3 P3 => ?_)
  obtain ⟨rfl, f3, o3⟩ := P3
  refine V_vret D rfl rfl ⟨rfl, rfl, rfl, rfl, (f1.trans (f2.wide (fun a k q => q.1))).trans (f3.wide (fun a k q => q.1)), ?_⟩
  rw [hib2, show t / 256 % 256 = t / 256 by omega]
  exact o3
theorem r_sends {f e : Nat} (h : MdS T N y) (hr : r < 16) (hv : Rw (I (y + 17)) (400 * r) v) (hl : v.length ≤ 400) (hf : f ≤ e) (he : e ≤ v.length) : Spec mX10_sends 0 [.inr (.inr y), .inl (r : Int), .inl (f : Int), .inl (e : Int)] z T I N 0 0 (xMd z T N fun rr I' => rr = none ∧ Fr (fun a k => (a = y + 10 ∧ k = 2) ∨ (a = y + 11 ∧ 800 ≤ k ∧ k < 1200)) I I' ∧ I' (y + 10) 2 = (((v.drop f).take (e - f)).length : Int) ∧ Rw (I' (y + 11)) 800 ((v.drop f).take (e - f))) := by
  have vl : ((v.drop f).take (e - f)).length = e - f := by simp; omega
  refine Spec_of okX10_sends (by decide) (by decide) (Nat.le_of_ble_eq_true rfl) fun Γ E D => ?_
  refine V_run D [12] 12 rfl ⟨h.a10 (by omega), h.1, trivial⟩ ?_
  rw [h.n10, show ((2 : Int)).toNat = 2 from rfl, show (e : Int) - (f : Int) = ((e - f : Nat) : Int) by omega]
  generalize hJ : xup I (y + 10) 2 ((e - f : Nat) : Int) = J
  rw [← cpy_0 J (y + 11) 800 (fun k => J (y + 17) (400 * r + (f + k)))]
  refine V_loc [some (.inr (.inr y)), some (.inl (r : Int)), some (.inl (f : Int)), some (.inl (e : Int)), some (.inl ((f + 0 : Nat) : Int))] rfl ?_
  refine xdn (P := fun k => V Γ E (xQ Γ E (xMd z T N fun rr I' => rr = none ∧ Fr (fun a k => (a = y + 10 ∧ k = 2) ∨ (a = y + 11 ∧ 800 ≤ k ∧ k < 1200)) I I' ∧ I' (y + 10) 2 = (((v.drop f).take (e - f)).length : Int) ∧ Rw (I' (y + 11)) 800 ((v.drop f).take (e - f))) 0 0) z T (cpy J (y + 11) 800 (fun k => J (y + 17) (400 * r + (f + k))) k) N 0 0 12 (xlv [some (.inr (.inr y)), some (.inl (r : Int)), some (.inl (f : Int)), some (.inl (e : Int)), some (.inl ((f + k : Nat) : Int))]) []) (e - f) ?_ (fun k hk ih => ?_)
  · refine V_run D [] 15 rfl trivial ?_
    refine V_ige D 50 rfl rfl (by omega) (by omega) (fun _ => ?_) (fun q => absurd q (by omega))
    refine V_vret D rfl rfl ⟨rfl, rfl, rfl, rfl, fun a k q => ?_, ?_, fun j hj => ?_⟩
    · rw [cpy_out (by omega), ← hJ]; (simp only [xup_ap, true_and, and_true, if_true, if_false]; repeat (first | rw [if_neg (by omega)] | rw [if_pos (by omega)]))
    · rw [cpy_out (by omega), ← hJ, vl]; (simp only [xup_ap, true_and, and_true, if_true, if_false]; repeat (first | rw [if_neg (by omega)] | rw [if_pos (by omega)]))
    · rw [vl] at hj
      rw [cpy_in hj, ← hJ, xup_ap, if_neg (by omega), hv (f + j) (by omega), List.getD_eq_getElem?_getD, List.getD_eq_getElem?_getD, List.getElem?_take_of_lt hj, List.getElem?_drop]
  · refine V_run D [] 15 rfl trivial ?_
    refine V_ige D 50 rfl rfl (by omega) (by omega) (fun q => absurd q (by omega)) (fun _ => ?_)
    refine V_run D [12] 12 rfl ⟨h.a11 (by omega), h.a17 (by omega), h.1, h.1, trivial⟩ ?_
    rw [h.n11, h.n17, show ((800 : Int) + ((f + k : Nat) : Int) - (f : Int)).toNat = 800 + k by omega, show (400 * (r : Int) + ((f + k : Nat) : Int)).toNat = 400 * r + (f + k) by omega, cpy_out (by omega)]
    have st := cpy_step J (y + 11) 800 (fun k => J (y + 17) (400 * r + (f + k))) k
    rw [st]
    exact V_loc [some (.inr (.inr y)), some (.inl (r : Int)), some (.inl (f : Int)), some (.inl (e : Int)), some (.inl ((f + (k + 1) : Nat) : Int))] rfl ih
/-- one of the three bytes that tell a block -/
theorem lg_byte {t a4 s n2 sz fr en : Int} {bl : Int} {k : Nat} {a v : List Int} (D : xD Γ E mX10_get 2 0 0) (h : MdS T N y) (ht : 0 ≤ t ∧ t < 16777216) (hk : k ≤ 16) (ha : a.length ≤ 2 ∧ BsOk a) (hv : v.length ≤ 2 ∧ BsOk v) (hO : OO J y 2 [(4, a), (23, v)])
    (K : ∀ J', Fr (Ob y 2) J J' → OO J' y 2 [(4, a), (23, if 0 < t / (2 ^ k : Nat) then v ++ [t / (2 ^ k : Nat) % 256] else v)] → V Γ E Q z T J' N 0 0 273 (xlv [some (.inr (.inr y)), some (.inl (r : Int)), some (.inr (.inl bl)), none, some (.inl a4), some (.inl s), some (.inl n2), some (.inl sz), some (.inl fr), some (.inl en), some (.inl t), some (.inl ((21 * 2 + 1 : Nat) : Int)), some (.inl ((k : Int) + -8))]) []) :
    V Γ E Q z T J N 0 0 273 (xlv [some (.inr (.inr y)), some (.inl (r : Int)), some (.inr (.inl bl)), none, some (.inl a4), some (.inl s), some (.inl n2), some (.inl sz), some (.inl fr), some (.inl en), some (.inl t), some (.inl ((21 * 2 + 1 : Nat) : Int)), some (.inl (k : Int))]) [] := by
  have hL : OL [(4, a), (23, v)] := fun j hj => by
    match j, hj with
    | 0, _ => exact ⟨by show (0 : Int) ≤ 4 ∧ (4 : Int) ≤ 65535; omega, by show a.length ≤ 400; omega, ha.2⟩
    | 1, _ => exact ⟨by show (0 : Int) ≤ 23 ∧ (23 : Int) ≤ 65535; omega, by show v.length ≤ 400; omega, hv.2⟩
  have e : zShr t (k : Int) = t / (2 ^ k : Nat) := zShr_nat (by omega) (by omega)
  have hd : 0 ≤ t / ((2 ^ k : Nat) : Int) ∧ t / ((2 ^ k : Nat) : Int) ≤ t := ⟨Int.ediv_nonneg (by omega) (Int.natCast_nonneg _), Int.ediv_le_self _ (by omega)⟩
  refine V_run D [] 275 rfl trivial ?_
  refine V_lt D 307 rfl rfl (by omega) (fun q => absurd q (by omega)) (fun _ => ?_)
  refine V_run D [] 283 rfl trivial ?_
  rw [e]
  refine V_le D 301 rfl rfl (by omega) (fun c => ?_) (fun c => ?_)
  · refine V_run D [273] 273 rfl trivial ?_
    have := K J Fr.rf (by rw [if_neg (by omega)]; exact hO)
    exact V_loc [some (.inr (.inr y)), some (.inl (r : Int)), some (.inr (.inl bl)), none, some (.inl a4), some (.inl s), some (.inl n2), some (.inl sz), some (.inl fr), some (.inl en), some (.inl t), some (.inl ((21 * 2 + 1 : Nat) : Int)), some (.inl ((k : Int) + -8))] rfl this
  · refine V_run D [] 298 rfl trivial ?_
    rw [e, zAnd255]
    refine V_mdV (av := [.inl ((21 * 2 + 1 : Nat) : Int), .inl (t / (2 ^ k : Nat) % 256)]) (st := []) D mwX10_longer rfl lkX10_X10_longer (r_longer h (by omega) hO hL (by simp) (by simp) (by show v.length < 400; omega)) h.1 rfl ⟨Nat.le_refl _, Nat.le_refl _⟩ (fun rr J2 P2 => ?_)
    obtain ⟨rfl, f2, o2⟩ := P2
    refine V_run D [273] 273 rfl trivial ?_
    have := K J2 (f2.wide (fun a k q => q.1)) (by rw [if_pos (by omega)]; exact o2)
    exact V_loc [some (.inr (.inr y)), some (.inl (r : Int)), some (.inr (.inl bl)), none, some (.inl a4), some (.inl s), some (.inl n2), some (.inl sz), some (.inl fr), some (.inl en), some (.inl t), some (.inl ((21 * 2 + 1 : Nat) : Int)), some (.inl ((k : Int) + -8))] rfl this
end XRef15
