/-- message j of the three -/
def MM (I : xI) (y j : Nat) (g : Msg) : Prop := (I (y + 1) j = g.1 ∧ I (y + 2) j = g.2.1 ∧ I (y + 3) j = g.2.2.1) ∧ (I (y + 4) j = (g.2.2.2.1.length : Int) ∧ Rw (I (y + 5)) (8 * j) g.2.2.2.1) ∧ OO I y j g.2.2.2.2.1 ∧ I (y + 10) j = (g.2.2.2.2.2.length : Int) ∧ Rw (I (y + 11)) (400 * j) g.2.2.2.2.2
def Mb (y j a k : Nat) : Prop := ((a = y + 1 ∨ a = y + 2 ∨ a = y + 3 ∨ a = y + 4 ∨ a = y + 10) ∧ k = j) ∨ (a = y + 5 ∧ 8 * j ≤ k ∧ k < 8 * j + 8) ∨ Ob y j a k ∨ (a = y + 11 ∧ 400 * j ≤ k ∧ k < 400 * j + 400)
theorem OL_of {os : List Opt} {b : Int} (h : OsOk b os) (hb : 0 ≤ b) : OL os := fun k hk => by
  have := h.mem hb (od os k) (by rw [od_get hk]; exact List.getElem_mem hk)
  exact ⟨⟨this.1, this.2.1⟩, this.2.2.2, this.2.2.1⟩
theorem MM.kept {I I' : xI} {y j : Nat} {g : Msg} (h : MM I y j g) (hok : MOk g) (hn : g.2.2.2.2.1.length ≤ 20) (hk : ∀ a k, Mb y j a k → I' a k = I a k) : MM I' y j g := by
  obtain ⟨⟨a1, a2, a3⟩, ⟨b1, b2⟩, c, d1, d2⟩ := h
  have h1 := hok.2.2.2.1.2
  have h2 := hok.2.2.2.2.2.2
  refine ⟨⟨?_, ?_, ?_⟩, ⟨?_, b2.kept (fun i hi => hk _ _ ?_)⟩, c.kept (OL_of hok.2.2.2.2.1 (Int.le_refl _)) (by omega) (fun a k q => hk a k (Or.inr (Or.inr (Or.inl q)))), ?_, d2.kept (fun i hi => hk _ _ ?_)⟩
  · rw [hk _ _ (by unfold Mb; omega)]; exact a1
  · rw [hk _ _ (by unfold Mb; omega)]; exact a2
  · rw [hk _ _ (by unfold Mb; omega)]; exact a3
  · rw [hk _ _ (by unfold Mb; omega)]; exact b1
  · unfold Mb; omega
  · rw [hk _ _ (by unfold Mb; omega)]; exact d1
  · unfold Mb; omega
theorem MM.hb {I I' : xI} {y j : Nat} {g : Msg} (h : MM I y j g) (hok : MOk g) (hn : g.2.2.2.2.1.length ≤ 20) (hf : Fr (Hb y) I I') : MM I' y j g := h.kept hok hn (fun a k q => hf a k (by unfold Mb Ob at q; unfold Hb; omega))
theorem hib2 (x : Int) : hib x 2 = [x / 256 % 256, x % 256] := by unfold hib lowb; simp [List.range_succ]
def wrP (z : Nat) (T : xY) (N : xN) (I : xI) (y : Nat) (xs : List Int) : xPo := xMd z T N fun r I' => r = none ∧ Fr (Hb y) I I' ∧ HH I' y xs
section XRef3
variable {Γ : xG} {E : xE} {z : Nat} {T : xY} {I : xI} {N : xN} {y m lev : Nat} {os : List Opt} {g : Msg}
theorem lr_size (D : xD Γ E mX10_size 1 0 0) (h : MdS T N y) (hm : m < 3) (hM : MM I y m g) (hok : MOk g) (hn : g.2.2.2.2.1.length ≤ 20) : ∀ (d i : Nat), i + d = g.2.2.2.2.1.length →
    V Γ E (xQ Γ E (xSame z T I N (some (.inl ((wr g).length : Int)))) 0 0) z T I N 0 0 39 (xlv [some (.inr (.inr y)), some (.inl (m : Int)), some (.inl ((4 + g.2.2.2.1.length + (if g.2.2.2.2.2 = [] then 0 else 1 + g.2.2.2.2.2.length) + (wos 0 (g.2.2.2.2.1.take i)).length : Nat) : Int)), some (.inl (lastn 0 (g.2.2.2.2.1.take i))), some (.inl ((21 * m + i : Nat) : Int))]) []
  | 0, i, hi => by
    obtain rfl : i = g.2.2.2.2.1.length := by omega
    refine V_run D [] 52 rfl ⟨h.a6 (by omega), h.1, trivial⟩ ?_
    rw [h.n6, Int.toNat_natCast, hM.2.2.1.1]
    refine V_ige D 105 rfl rfl (by omega) (by omega) (fun q1 => ?_) (fun q1 => absurd q1 (by omega))
    refine V_run D [] 106 rfl trivial ?_
    refine V_iret D rfl rfl ⟨?_, rfl, rfl, rfl, rfl⟩
    rw [wr_len, List.take_length]
    congr 2
    omega
  | d + 1, i, hi => by
    obtain ⟨o1, o2, o3⟩ := hM.2.2.1.2 i (by omega)
    have hat := hok.2.2.2.2.1.at (i := i) (by omega)
    have hv := OL_of hok.2.2.2.2.1 (Int.le_refl _) i (by omega)
    refine V_run D [] 52 rfl ⟨h.a6 (by omega), h.1, trivial⟩ ?_
    rw [h.n6, Int.toNat_natCast, hM.2.2.1.1]
    refine V_ige D 105 rfl rfl (by omega) (by omega) (fun q1 => absurd q1 (by omega)) (fun q1 => ?_)
    refine V_run D [] 66 rfl ⟨h.a7 (by omega), h.1, trivial⟩ ?_
    rw [h.n7, Int.toNat_natCast, o1]
    refine V_askS (av := [.inl ((od g.2.2.2.2.1 i).1 - lastn 0 (g.2.2.2.2.1.take i))]) (st := [.inl 1, .inl ((4 + g.2.2.2.1.length + (if g.2.2.2.2.2 = [] then 0 else 1 + g.2.2.2.2.2.length) + (wos 0 (g.2.2.2.2.1.take i)).length : Nat) : Int)]) D mwX10_more rfl lkX10_X10_more (r_more (by omega)) rfl ⟨Nat.le_refl _, Nat.le_refl _⟩ ?_
    refine V_run D [] 77 rfl ⟨h.a8 (by omega), h.1, trivial⟩ ?_
    rw [h.n8, Int.toNat_natCast, o2]
    refine V_askS (av := [.inl ((od g.2.2.2.2.1 i).2.length : Int)]) (st := [.inl (1 + (mb ((od g.2.2.2.2.1 i).1 - lastn 0 (g.2.2.2.2.1.take i)) : Int)), .inl ((4 + g.2.2.2.1.length + (if g.2.2.2.2.2 = [] then 0 else 1 + g.2.2.2.2.2.length) + (wos 0 (g.2.2.2.2.1.take i)).length : Nat) : Int)]) D mwX10_more rfl lkX10_X10_more (r_more (by omega)) rfl ⟨Nat.le_refl _, Nat.le_refl _⟩ ?_
    refine V_run D [39] 39 rfl ⟨h.a7 (by omega), h.1, h.a8 (by omega), h.1, trivial⟩ ?_
    rw [h.n7, h.n8, Int.toNat_natCast, o1, o2]
    have e2 : ((4 + g.2.2.2.1.length + (if g.2.2.2.2.2 = [] then 0 else 1 + g.2.2.2.2.2.length) + (wos 0 (g.2.2.2.2.1.take i)).length : Nat) : Int) + (1 + (mb ((od g.2.2.2.2.1 i).1 - lastn 0 (g.2.2.2.2.1.take i)) : Int) + (mb ((od g.2.2.2.2.1 i).2.length : Int) : Int) + ((od g.2.2.2.2.1 i).2.length : Int)) = ((4 + g.2.2.2.1.length + (if g.2.2.2.2.2 = [] then 0 else 1 + g.2.2.2.2.2.length) + (wos 0 (g.2.2.2.2.1.take (i + 1))).length : Nat) : Int) := by
      rw [otake_snoc (by omega), wos_snoc, List.length_append, wo_len]; omega
    have e3 : (od g.2.2.2.2.1 i).1 = lastn 0 (g.2.2.2.2.1.take (i + 1)) := by rw [otake_snoc (by omega), lastn_snoc]
    rw [e2, e3]
    refine V_loc [some (.inr (.inr y)), some (.inl (m : Int)), some (.inl ((4 + g.2.2.2.1.length + (if g.2.2.2.2.2 = [] then 0 else 1 + g.2.2.2.2.2.length) + (wos 0 (g.2.2.2.2.1.take (i + 1))).length : Nat) : Int)), some (.inl (lastn 0 (g.2.2.2.2.1.take (i + 1)))), some (.inl ((21 * m + (i + 1) : Nat) : Int))] rfl ?_
    exact lr_size D h hm hM hok hn d (i + 1) (by omega)
theorem r_size (h : MdS T N y) (hm : m < 3) (hM : MM I y m g) (hok : MOk g) (hn : g.2.2.2.2.1.length ≤ 20) : Spec mX10_size 1 [.inr (.inr y), .inl (m : Int)] z T I N 0 0 (xSame z T I N (some (.inl ((wr g).length : Int)))) := by
  have hp := hok.2.2.2.2.2.2
  have fin : ∀ {Γ : xG} {E : xE} (D : xD Γ E mX10_size 1 0 0) (a : Int), a = ((if g.2.2.2.2.2 = [] then 0 else 1 + g.2.2.2.2.2.length : Nat) : Int) → V Γ E (xQ Γ E (xSame z T I N (some (.inl ((wr g).length : Int)))) 0 0) z T I N 0 0 29 (xent [.inr (.inr y), .inl (m : Int)] 0) [.inl a, .inl (4 + (g.2.2.2.1.length : Int))] := by
    intro Γ E D a ha
    refine V_run D [39] 39 rfl trivial ?_
    have e : (4 : Int) + (g.2.2.2.1.length : Int) + a = ((4 + g.2.2.2.1.length + (if g.2.2.2.2.2 = [] then 0 else 1 + g.2.2.2.2.2.length) + (wos 0 (g.2.2.2.2.1.take 0)).length : Nat) : Int) := by rw [ha, List.take_zero]; unfold wos; simp only [List.length_nil]; omega
    rw [e, show 21 * (m : Int) = ((21 * m + 0 : Nat) : Int) by omega]
    refine V_loc [some (.inr (.inr y)), some (.inl (m : Int)), some (.inl ((4 + g.2.2.2.1.length + (if g.2.2.2.2.2 = [] then 0 else 1 + g.2.2.2.2.2.length) + (wos 0 (g.2.2.2.2.1.take 0)).length : Nat) : Int)), some (.inl (lastn 0 (g.2.2.2.2.1.take 0))), some (.inl ((21 * m + 0 : Nat) : Int))] rfl ?_
    exact lr_size D h hm hM hok hn _ 0 (Nat.zero_add _)
  refine Spec_of okX10_size (by decide) (by decide) (Nat.le_of_ble_eq_true rfl) fun Γ E D => ?_
  refine V_run D [] 14 rfl ⟨h.a10 (by omega), h.1, h.a4 (by omega), h.1, trivial⟩ ?_
  rw [h.n4, h.n10, Int.toNat_natCast, hM.2.1.1, hM.2.2.2.1]
  refine V_le D 28 rfl rfl (by omega) (fun q => ?_) (fun q => ?_)
  · refine V_run D [29] 29 rfl trivial ?_
    exact fin D 0 (by rw [if_pos (List.length_eq_zero_iff.mp (by omega))]; rfl)
  · refine V_run D [29] 29 rfl ⟨h.a10 (by omega), h.1, trivial⟩ ?_
    rw [h.n10, Int.toNat_natCast, hM.2.2.2.1]
    exact fin D _ (by rw [if_neg (fun e => q (by rw [e]; exact Int.le_refl _))]; omega)
theorem lr_pay (D : xD Γ E mX10_writes 2 0 0) (h : MdS T N y) (hm : m < 3) (hM : MM I y m g) (hok : MOk g) (hn : g.2.2.2.2.1.length ≤ 20) {xs : List Int} {b2 : Int} (hfit : xs.length + g.2.2.2.2.2.length ≤ 2000) : ∀ (d i : Nat) (I1 : xI), i + d = g.2.2.2.2.2.length → Fr (Hb y) I I1 → HH I1 y (xs ++ g.2.2.2.2.2.take i) →
    V Γ E (xQ Γ E (wrP z T N I y (xs ++ g.2.2.2.2.2)) 0 0) z T I1 N 0 0 236 (xlv [some (.inr (.inr y)), some (.inl (m : Int)), some (.inl b2), some (.inl (i : Int))]) []
  | 0, i, I1, hi, f1, hH => by
    obtain rfl : i = g.2.2.2.2.2.length := by omega
    have h1 := hM.hb hok hn f1
    have hp := hok.2.2.2.2.2.2
    refine V_run D [] 243 rfl ⟨h.a10 (by omega), h.1, trivial⟩ ?_
    rw [h.n10, Int.toNat_natCast, h1.2.2.2.1]
    refine V_ige D 268 rfl rfl (by omega) (by omega) (fun q1 => ?_) (fun q1 => absurd q1 (by omega))
    rw [List.take_length] at hH
    exact V_vret D rfl rfl ⟨rfl, rfl, rfl, rfl, f1, hH⟩
  | d + 1, i, I1, hi, f1, hH => by
    have h1 := hM.hb hok hn f1
    have hp := hok.2.2.2.2.2
    refine V_run D [] 243 rfl ⟨h.a10 (by omega), h.1, trivial⟩ ?_
    rw [h.n10, Int.toNat_natCast, h1.2.2.2.1]
    refine V_ige D 268 rfl rfl (by omega) (by omega) (fun q1 => absurd q1 (by omega)) (fun q1 => ?_)
    refine V_run D [] 259 rfl ⟨h.a11 (by omega), h.1, trivial⟩ ?_
    rw [h.n11, show (400 * (m : Int) + (i : Int)).toNat = 400 * m + i by omega, h1.2.2.2.2 i (by omega)]
    refine V_mdV (av := [.inl (g.2.2.2.2.2.getD i 0)]) (st := []) D mwX10_put rfl lkX10_X10_put (r_put h hH (by simp; omega) (hp.1 _ (getD_mem (by omega)))) h.1 rfl ⟨Nat.le_refl _, Nat.le_refl _⟩ (fun r I2 P2 => ?_)
    obtain ⟨rfl, f2, h2⟩ := P2
    refine V_run D [236] 236 rfl trivial ?_
    refine V_loc [some (.inr (.inr y)), some (.inl (m : Int)), some (.inl b2), some (.inl ((i + 1 : Nat) : Int))] rfl ?_
    refine lr_pay D h hm hM hok hn hfit d (i + 1) I2 (by omega) (f1.trans f2) ?_
    rw [take_snoc (by omega), ← List.append_assoc]
    exact h2
theorem lr_val (D : xD Γ E mX10_writes 2 0 0) (h : MdS T N y) (hm : m < 3) (hM : MM I y m g) (hok : MOk g) (hn : g.2.2.2.2.1.length ≤ 20) {xs : List Int} {j : Nat} {b4 : Int} (hj : j < g.2.2.2.2.1.length) (hfit : xs.length + (od g.2.2.2.2.1 j).2.length ≤ 2000) {Q : xPo}
    (K : ∀ I1, Fr (Hb y) I I1 → HH I1 y (xs ++ (od g.2.2.2.2.1 j).2) → V Γ E (xQ Γ E Q 0 0) z T I1 N 0 0 105 (xlv [some (.inr (.inr y)), some (.inl (m : Int)), some (.inl (od g.2.2.2.2.1 j).1), some (.inl ((21 * m + (j + 1) : Nat) : Int))]) []) : ∀ (d i : Nat) (I1 : xI), i + d = (od g.2.2.2.2.1 j).2.length → Fr (Hb y) I I1 → HH I1 y (xs ++ (od g.2.2.2.2.1 j).2.take i) →
    V Γ E (xQ Γ E Q 0 0) z T I1 N 0 0 171 (xlv [some (.inr (.inr y)), some (.inl (m : Int)), some (.inl b4), some (.inl ((21 * m + j : Nat) : Int)), some (.inl ((od g.2.2.2.2.1 j).1 - b4)), some (.inl (i : Int))]) []
  | 0, i, I1, hi, f1, hH => by
    obtain rfl : i = (od g.2.2.2.2.1 j).2.length := by omega
    have h1 := hM.hb hok hn f1
    obtain ⟨o1, o2, o3⟩ := h1.2.2.1.2 j hj
    have hv := OL_of hok.2.2.2.2.1 (Int.le_refl _) j hj
    refine V_run D [] 179 rfl ⟨h.a8 (by omega), h.1, trivial⟩ ?_
    rw [h.n8, Int.toNat_natCast, o2]
    refine V_ige D 205 rfl rfl (by omega) (by omega) (fun q1 => ?_) (fun q1 => absurd q1 (by omega))
    refine V_run D [105] 105 rfl ⟨h.a7 (by omega), h.1, trivial⟩ ?_
    rw [h.n7, Int.toNat_natCast, o1]
    rw [List.take_length] at hH
    exact V_loc [some (.inr (.inr y)), some (.inl (m : Int)), some (.inl (od g.2.2.2.2.1 j).1), some (.inl ((21 * m + (j + 1) : Nat) : Int))] rfl (K I1 f1 hH)
  | d + 1, i, I1, hi, f1, hH => by
    have h1 := hM.hb hok hn f1
    obtain ⟨o1, o2, o3⟩ := h1.2.2.1.2 j hj
    have hv := OL_of hok.2.2.2.2.1 (Int.le_refl _) j hj
    refine V_run D [] 179 rfl ⟨h.a8 (by omega), h.1, trivial⟩ ?_
    rw [h.n8, Int.toNat_natCast, o2]
    refine V_ige D 205 rfl rfl (by omega) (by omega) (fun q1 => absurd q1 (by omega)) (fun q1 => ?_)
    refine V_run D [] 196 rfl ⟨h.a9 (by omega), h.1, trivial⟩ ?_
    rw [h.n9, show (400 * ((21 * m + j : Nat) : Int) + (i : Int)).toNat = 400 * (21 * m + j) + i by omega, o3 i (by omega)]
    refine V_mdV (av := [.inl ((od g.2.2.2.2.1 j).2.getD i 0)]) (st := []) D mwX10_put rfl lkX10_X10_put (r_put h hH (by simp; omega) (hv.2.2 _ (getD_mem (by omega)))) h.1 rfl ⟨Nat.le_refl _, Nat.le_refl _⟩ (fun r I2 P2 => ?_)
    obtain ⟨rfl, f2, h2⟩ := P2
    refine V_run D [171] 171 rfl trivial ?_
    refine V_loc [some (.inr (.inr y)), some (.inl (m : Int)), some (.inl b4), some (.inl ((21 * m + j : Nat) : Int)), some (.inl ((od g.2.2.2.2.1 j).1 - b4)), some (.inl ((i + 1 : Nat) : Int))] rfl ?_
    refine lr_val D h hm hM hok hn hj hfit K d (i + 1) I2 (by omega) (f1.trans f2) ?_
    rw [take_snoc (by omega), ← List.append_assoc]
    exact h2
theorem lr_opts (D : xD Γ E mX10_writes 2 0 0) (h : MdS T N y) (hm : m < 3) (hM : MM I y m g) (hok : MOk g) (hn : g.2.2.2.2.1.length ≤ 20) (hfit : (wr g).length ≤ 2000) : ∀ (d i : Nat) (I1 : xI), i + d = g.2.2.2.2.1.length → Fr (Hb y) I I1 → HH I1 y (whd g ++ wos 0 (g.2.2.2.2.1.take i)) →
    V Γ E (xQ Γ E (wrP z T N I y (wr g)) 0 0) z T I1 N 0 0 105 (xlv [some (.inr (.inr y)), some (.inl (m : Int)), some (.inl (lastn 0 (g.2.2.2.2.1.take i))), some (.inl ((21 * m + i : Nat) : Int))]) []
  | 0, i, I1, hi, f1, hH => by
    obtain rfl : i = g.2.2.2.2.1.length := by omega
    have h1 := hM.hb hok hn f1
    have hl := wr_len g
    have hwl := whd_len g
    have hp := hok.2.2.2.2.2.2
    rw [List.take_length] at hH
    refine V_run D [] 117 rfl ⟨h.a6 (by omega), h.1, trivial⟩ ?_
    rw [h.n6, Int.toNat_natCast, h1.2.2.1.1]
    refine V_ige D 218 rfl rfl (by omega) (by omega) (fun q1 => ?_) (fun q1 => absurd q1 (by omega))
    refine V_run D [] 224 rfl ⟨h.a10 (by omega), h.1, trivial⟩ ?_
    rw [h.n10, Int.toNat_natCast, h1.2.2.2.1]
    refine V_le D 268 rfl rfl (by omega) (fun q2 => ?_) (fun q2 => ?_)
    · refine V_vret D rfl rfl ⟨rfl, rfl, rfl, rfl, f1, ?_⟩
      rw [wr_eq, if_pos (List.length_eq_zero_iff.mp (by omega)), List.append_nil]
      exact hH
    · have e : ¬ g.2.2.2.2.2 = [] := fun e => q2 (by rw [e]; exact Int.le_refl _)
      rw [if_neg e] at hl
      refine V_run D [] 231 rfl trivial ?_
      refine V_mdV (av := [.inl 255]) (st := []) D mwX10_put rfl lkX10_X10_put (r_put h hH (by simp; omega) (by omega)) h.1 rfl ⟨Nat.le_refl _, Nat.le_refl _⟩ (fun r I2 P2 => ?_)
      obtain ⟨rfl, f2, h2⟩ := P2
      refine V_run D [236] 236 rfl trivial ?_
      have ew : wr g = whd g ++ wos 0 g.2.2.2.2.1 ++ [255] ++ g.2.2.2.2.2 := by rw [wr_eq, if_neg e]; simp
      rw [ew]
      refine V_loc [some (.inr (.inr y)), some (.inl (m : Int)), some (.inl (lastn 0 (g.2.2.2.2.1.take g.2.2.2.2.1.length))), some (.inl ((0 : Nat) : Int))] rfl ?_
      refine lr_pay D h hm hM hok hn (by simp; omega) _ 0 I2 (Nat.zero_add _) (f1.trans f2) ?_
      simpa using h2
  | d + 1, i, I1, hi, f1, hH => by
    have h1 := hM.hb hok hn f1
    obtain ⟨o1, o2, o3⟩ := h1.2.2.1.2 i (by omega)
    have hv := OL_of hok.2.2.2.2.1 (Int.le_refl _) i (by omega)
    have hat := hok.2.2.2.2.1.at (i := i) (by omega)
    have hl := wr_len g
    have hwl := whd_len g
    have hpl := wos_take_le 0 g.2.2.2.2.1 (i + 1)
    have hsn : (wos 0 (g.2.2.2.2.1.take (i + 1))) = wos 0 (g.2.2.2.2.1.take i) ++ wo (lastn 0 (g.2.2.2.2.1.take i)) (od g.2.2.2.2.1 i) := by rw [otake_snoc (by omega), wos_snoc]
    rw [hsn, List.length_append, wo_len] at hpl
    have w1 := wm_len ((od g.2.2.2.2.1 i).1 - lastn 0 (g.2.2.2.2.1.take i))
    have w2 := wm_len ((od g.2.2.2.2.1 i).2.length : Int)
    have s1 := sf_rng (x := (od g.2.2.2.2.1 i).1 - lastn 0 (g.2.2.2.2.1.take i)) (by omega)
    have s2 := sf_rng (x := ((od g.2.2.2.2.1 i).2.length : Int)) (by omega)
    refine V_run D [] 117 rfl ⟨h.a6 (by omega), h.1, trivial⟩ ?_
    rw [h.n6, Int.toNat_natCast, h1.2.2.1.1]
    refine V_ige D 218 rfl rfl (by omega) (by omega) (fun q1 => absurd q1 (by omega)) (fun q1 => ?_)
    refine V_run D [] 135 rfl ⟨h.a7 (by omega), h.1, trivial⟩ ?_
    rw [h.n7, Int.toNat_natCast, o1]
    refine V_askS (av := [.inl ((od g.2.2.2.2.1 i).1 - lastn 0 (g.2.2.2.2.1.take i))]) (st := [.inl 16, .inr (.inr y)]) D mwX10_nibble rfl lkX10_X10_nibble (r_nibble (by omega)) rfl ⟨Nat.le_refl _, Nat.le_refl _⟩ ?_
    refine V_run D [] 145 rfl ⟨h.a8 (by omega), h.1, trivial⟩ ?_
    rw [h.n8, Int.toNat_natCast, o2]
    refine V_askS (av := [.inl ((od g.2.2.2.2.1 i).2.length : Int)]) (st := [.inl (16 * sf ((od g.2.2.2.2.1 i).1 - lastn 0 (g.2.2.2.2.1.take i))), .inr (.inr y)]) D mwX10_nibble rfl lkX10_X10_nibble (r_nibble (by omega)) rfl ⟨Nat.le_refl _, Nat.le_refl _⟩ ?_
    refine V_run D [] 149 rfl trivial ?_
    refine V_mdV (av := [.inl (16 * sf ((od g.2.2.2.2.1 i).1 - lastn 0 (g.2.2.2.2.1.take i)) + sf ((od g.2.2.2.2.1 i).2.length : Int))]) (st := []) D mwX10_put rfl lkX10_X10_put (r_put h hH (by simp; omega) (by omega)) h.1 rfl ⟨Nat.le_refl _, Nat.le_refl _⟩ (fun r I2 P2 => ?_)
    obtain ⟨rfl, f2, h2⟩ := P2
    refine V_run D [] 155 rfl trivial ?_
    refine V_mdV (av := [.inl ((od g.2.2.2.2.1 i).1 - lastn 0 (g.2.2.2.2.1.take i))]) (st := []) D mwX10_extra rfl lkX10_X10_extra (r_extra h h2 (by omega) (by simp; omega)) h.1 rfl ⟨Nat.le_refl _, Nat.le_refl _⟩ (fun r I3 P3 => ?_)
    obtain ⟨rfl, f3, h3⟩ := P3
    have o2' := ((hM.hb hok hn ((f1.trans f2).trans f3)).2.2.1.2 i (by omega)).2.1
    refine V_run D [] 165 rfl ⟨h.a8 (by omega), h.1, trivial⟩ ?_
    rw [h.n8, Int.toNat_natCast, o2']
    refine V_mdV (av := [.inl ((od g.2.2.2.2.1 i).2.length : Int)]) (st := []) D mwX10_extra rfl lkX10_X10_extra (r_extra h h3 (by omega) (by simp; omega)) h.1 rfl ⟨Nat.le_refl _, Nat.le_refl _⟩ (fun r I4 P4 => ?_)
    obtain ⟨rfl, f4, h4⟩ := P4
    refine V_run D [171] 171 rfl trivial ?_
    refine V_loc [some (.inr (.inr y)), some (.inl (m : Int)), some (.inl (lastn 0 (g.2.2.2.2.1.take i))), some (.inl ((21 * m + i : Nat) : Int)), some (.inl ((od g.2.2.2.2.1 i).1 - lastn 0 (g.2.2.2.2.1.take i))), some (.inl ((0 : Nat) : Int))] rfl ?_
    refine lr_val (xs := whd g ++ wos 0 (g.2.2.2.2.1.take i) ++ [16 * sf ((od g.2.2.2.2.1 i).1 - lastn 0 (g.2.2.2.2.1.take i)) + sf ((od g.2.2.2.2.1 i).2.length : Int)] ++ wm ((od g.2.2.2.2.1 i).1 - lastn 0 (g.2.2.2.2.1.take i)) ++ wm ((od g.2.2.2.2.1 i).2.length : Int)) D h hm hM hok hn (by omega) (by simp; omega) (fun I5 f5 h5 => ?_) _ 0 I4 (Nat.zero_add _) (((f1.trans f2).trans f3).trans f4) (by simpa using h4)
    have e3 : (od g.2.2.2.2.1 i).1 = lastn 0 (g.2.2.2.2.1.take (i + 1)) := by rw [otake_snoc (by omega), lastn_snoc]
    rw [e3]
    refine lr_opts D h hm hM hok hn hfit d (i + 1) I5 (by omega) f5 ?_
    rw [hsn]
    unfold wo
    simpa using h5
theorem lr_tok (D : xD Γ E mX10_writes 2 0 0) (h : MdS T N y) (hm : m < 3) (hM : MM I y m g) (hok : MOk g) (hn : g.2.2.2.2.1.length ≤ 20) (hfit : (wr g).length ≤ 2000) {xs : List Int} (ex : whd g = xs ++ g.2.2.2.1) : ∀ (d i : Nat) (I1 : xI), i + d = g.2.2.2.1.length → Fr (Hb y) I I1 → HH I1 y (xs ++ g.2.2.2.1.take i) →
    V Γ E (xQ Γ E (wrP z T N I y (wr g)) 0 0) z T I1 N 0 0 67 (xlv [some (.inr (.inr y)), some (.inl (m : Int)), some (.inl (i : Int))]) []
  | 0, i, I1, hi, f1, hH => by
    obtain rfl : i = g.2.2.2.1.length := by omega
    have h1 := hM.hb hok hn f1
    have hp := hok.2.2.2.1.2
    refine V_run D [] 74 rfl ⟨h.a4 (by omega), h.1, trivial⟩ ?_
    rw [h.n4, Int.toNat_natCast, h1.2.1.1]
    refine V_ige D 98 rfl rfl (by omega) (by omega) (fun q1 => ?_) (fun q1 => absurd q1 (by omega))
    rw [List.take_length, ← ex] at hH
    refine V_run D [105] 105 rfl trivial ?_
    rw [show 21 * (m : Int) = ((21 * m + 0 : Nat) : Int) by omega]
    refine V_loc [some (.inr (.inr y)), some (.inl (m : Int)), some (.inl (lastn 0 (g.2.2.2.2.1.take 0))), some (.inl ((21 * m + 0 : Nat) : Int))] rfl ?_
    refine lr_opts D h hm hM hok hn hfit _ 0 I1 (Nat.zero_add _) f1 ?_
    simpa [wos] using hH
  | d + 1, i, I1, hi, f1, hH => by
    have h1 := hM.hb hok hn f1
    have hp := hok.2.2.2.1
    have hl := wr_len g
    have hwl := whd_len g
    rw [ex, List.length_append] at hwl
    refine V_run D [] 74 rfl ⟨h.a4 (by omega), h.1, trivial⟩ ?_
    rw [h.n4, Int.toNat_natCast, h1.2.1.1]
    refine V_ige D 98 rfl rfl (by omega) (by omega) (fun q1 => absurd q1 (by omega)) (fun q1 => ?_)
    refine V_run D [] 89 rfl ⟨h.a5 (by omega), h.1, trivial⟩ ?_
    rw [h.n5, show (8 * (m : Int) + (i : Int)).toNat = 8 * m + i by omega, h1.2.1.2 i (by omega)]
    refine V_mdV (av := [.inl (g.2.2.2.1.getD i 0)]) (st := []) D mwX10_put rfl lkX10_X10_put (r_put h hH (by simp; omega) (hp.1 _ (getD_mem (by omega)))) h.1 rfl ⟨Nat.le_refl _, Nat.le_refl _⟩ (fun r I2 P2 => ?_)
    obtain ⟨rfl, f2, h2⟩ := P2
    refine V_run D [67] 67 rfl trivial ?_
    refine V_loc [some (.inr (.inr y)), some (.inl (m : Int)), some (.inl ((i + 1 : Nat) : Int))] rfl ?_
    refine lr_tok D h hm hM hok hn hfit ex d (i + 1) I2 (by omega) (f1.trans f2) ?_
    rw [take_snoc (by omega), ← List.append_assoc]
    exact h2
theorem r_writes (h : MdS T N y) (hm : m < 3) (hM : MM I y m g) (hok : MOk g) (hn : g.2.2.2.2.1.length ≤ 20) (hfit : (wr g).length ≤ 2000) : Spec mX10_writes 2 [.inr (.inr y), .inl (m : Int)] z T I N 0 0 (wrP z T N I y (wr g)) := by
  have hl := wr_len g
  obtain ⟨k1, k2, k3, ⟨k4, k4l⟩, k5, k6, k7⟩ := _root_.id hok
  have f0 : Fr (Hb y) I (xup I y 13 0) := fun a k q => by unfold Hb at q; (simp only [xup_ap, true_and, and_true, if_true, if_false]; repeat (first | rw [if_neg (by omega)] | rw [if_pos (by omega)]))
  have h0 : HH (xup I y 13 0) y [] := ⟨⟨by (simp only [xup_ap, true_and, and_true, if_true, if_false]; repeat (first | rw [if_neg (by omega)] | rw [if_pos (by omega)])); rfl, by simp, fun v hv => by simp at hv⟩, Rw.nil⟩
  have m0 := hM.hb hok hn f0
  refine Spec_of okX10_writes (by decide) (by decide) (Nat.le_of_ble_eq_true rfl) fun Γ E D => ?_
  refine V_run D [] 25 rfl ⟨h.a4 (by omega), h.1, h.a1 (by omega), h.1, h.1, trivial⟩ ?_
  rw [h.n1, h.n4, Int.toNat_natCast, m0.1.1, m0.2.1.1]
  refine V_mdV (av := [.inl (64 + 16 * g.1 + (g.2.2.2.1.length : Int))]) (st := []) D mwX10_put rfl lkX10_X10_put (r_put h h0 (by simp) (by omega)) h.1 rfl ⟨Nat.le_refl _, Nat.le_refl _⟩ (fun r I1 P1 => ?_)
  obtain ⟨rfl, f1, h1⟩ := P1
  have m1 := m0.hb hok hn f1
  refine V_run D [] 35 rfl ⟨h.a2 (by omega), h.1, trivial⟩ ?_
  rw [h.n2, Int.toNat_natCast, m1.1.2.1]
  refine V_mdV (av := [.inl g.2.1]) (st := []) D mwX10_put rfl lkX10_X10_put (r_put h h1 (by simp) (by omega)) h.1 rfl ⟨Nat.le_refl _, Nat.le_refl _⟩ (fun r I2 P2 => ?_)
  obtain ⟨rfl, f2, h2⟩ := P2
  have m2 := m1.hb hok hn f2
  refine V_run D [] 48 rfl ⟨h.a3 (by omega), h.1, trivial⟩ ?_
  rw [h.n3, Int.toNat_natCast, m2.1.2.2, show zShr g.2.2.1 8 = g.2.2.1 / 256 from zShr_nat (k := 8) (by omega) (by decide)]
  refine V_mdV (av := [.inl (g.2.2.1 / 256)]) (st := []) D mwX10_put rfl lkX10_X10_put (r_put h h2 (by simp) (by omega)) h.1 rfl ⟨Nat.le_refl _, Nat.le_refl _⟩ (fun r I3 P3 => ?_)
  obtain ⟨rfl, f3, h3⟩ := P3
  have m3 := m2.hb hok hn f3
  refine V_run D [] 62 rfl ⟨h.a3 (by omega), h.1, trivial⟩ ?_
  rw [h.n3, Int.toNat_natCast, m3.1.2.2, zAnd255]
  refine V_mdV (av := [.inl (g.2.2.1 % 256)]) (st := []) D mwX10_put rfl lkX10_X10_put (r_put h h3 (by simp) (by omega)) h.1 rfl ⟨Nat.le_refl _, Nat.le_refl _⟩ (fun r I4 P4 => ?_)
  obtain ⟨rfl, f4, h4⟩ := P4
  refine V_run D [67] 67 rfl trivial ?_
  refine V_loc [some (.inr (.inr y)), some (.inl (m : Int)), some (.inl ((0 : Nat) : Int))] rfl ?_
  refine lr_tok D h hm hM hok hn hfit (xs := [64 + 16 * g.1 + (g.2.2.2.1.length : Int), g.2.1, g.2.2.1 / 256, g.2.2.1 % 256]) ?_ _ 0 I4 (Nat.zero_add _) ((((f0.trans f1).trans f2).trans f3).trans f4) (by simpa using h4)
  unfold whd
  rw [hib2, show g.2.2.1 / 256 % 256 = g.2.2.1 / 256 by omega]
  rfl
end XRef3
