/-! the law's loop -/
theorem xin32 (v : Int32) : xIn v.toInt := ⟨Int32.le_toInt v, by have := Int32.toInt_lt v; omega⟩
theorem MdAt.lat {T : xY} {I : xI} {N : xN} {y : Nat} {x : Dk} (h : MdAt T I N y x) : ∀ l, x.2.1.2 = some l → l < x.2.1.1.2.2.2.2.1.length := fun l hl => by
  have := h.2.2.1.2.2
  rw [hl] at this
  exact this.2
theorem k_begin {x : Dk} {ty co id w n : Int} : (dBegin x ty co id w n).1 ≤ 1 := by
  unfold dBegin
  (repeat' split) <;> dsimp only <;> omega
theorem k_option {x : Dk} {num w n : Int} : (dOption x num w n).1 ≤ 2 := by
  unfold dOption
  (repeat' split) <;> dsimp only <;> omega
theorem k_longer {x : Dk} {w n : Int} : (dLonger x w n).1 ≤ 2 := by
  unfold dLonger
  (repeat' split) <;> dsimp only <;> omega
theorem k_payload {x : Dk} {w n : Int} : (dPayload x w n).1 ≤ 2 := by
  unfold dPayload
  (repeat' split) <;> dsimp only <;> omega
theorem k_write {x : Dk} : (dWrite x).1 ≤ 1 := by
  unfold dWrite
  (repeat' split) <;> dsimp only <;> omega
theorem k_feed {x : Dk} {w n : Int} : (dFeed x w n).1 ≤ 2 := by
  unfold dFeed
  (repeat' split) <;> dsimp only <;> omega
theorem k_end {x : Dk} {n : Int} : (dEnd x n).1 ≤ 1 := by
  unfold dEnd
  (repeat' split) <;> dsimp only <;> omega
theorem k_read {x : Dk} : (dRead x).1 ≤ 1 := by
  unfold dRead
  (repeat' split) <;> dsimp only <;> omega
theorem k_about {x : Dk} {w : Int} : (dAbout x w).1 ≤ 1 := by
  unfold dAbout
  (repeat' split) <;> dsimp only <;> omega
theorem k_byteOf {x : Dk} {p i : Int} : (dByteOf x p i).1 ≤ 1 := by
  unfold dByteOf
  (repeat' split) <;> dsimp only <;> omega
theorem k_optionAt {x : Dk} {k w : Int} : (dOptionAt x k w).1 ≤ 1 := by
  unfold dOptionAt
  (repeat' split) <;> dsimp only <;> omega
theorem k_serve {x : Dk} {p : Int} : (dServe x p).1 ≤ 1 := by
  unfold dServe
  (repeat' split) <;> dsimp only <;> omega
theorem k_total {x : Dk} {w : Int} : (dTotal x w).1 ≤ 1 := by
  unfold dTotal
  (repeat' split) <;> dsimp only <;> omega
theorem k_resource {x : Dk} {k w : Int} : (dResource x k w).1 ≤ 1 := by
  unfold dResource
  (repeat' split) <;> dsimp only <;> omega
/-- class and reference hold the same, after n calls -/
def LW (T : xY) (I : xI) (N : xN) (d n : Nat) (x : Dk) : Prop := DkAt T I N d x ∧ MdAt T I N (d + 494) x ∧ T (d + 518) = some (.inl (2, 1)) ∧ DkI n x
section XLoop
variable {Γ : xG} {E : xE} {T : xY} {I : xI} {N : xN} {z d L : Nat} {xs : Nat → Int32} {x : Dk}
set_option maxRecDepth 8000 in
theorem law_fin {ce sl : Nat} {lv : xL} (D : xDL Γ E mL_law 11 601024 7293034) (hX : xSc Γ E L xs) (hE : (gs Γ).heap.size ≤ E.2.2) (h1 : ce ≤ 601024) (h2 : sl ≤ 7293034) : VL Γ E (lw_Z (gb Γ) (ga Γ) (gs Γ)) z T I N ce sl 1174 lv [.inl 1] := by
  intro H locs ls hR hS hl
  obtain ⟨b, g1, -⟩ := hX
  refine va_forget (fun q hq => Nat.le_trans hE (hS.2.2 q hq)) ?_
  refine W.widen (k := 601024) (n := 7293034) h1 h2 ?_
  rw [g1]
  exact lw_retR D.1.1.1.1 D.1.1.1.2.1 D.1.1.1.2.2.1 D.1.1.1.2.2.2.2.2.1 (D.1.1.dec (pc := 1174) (i := .ireturn) (n := 1) rfl)
set_option maxRecDepth 8000 in
theorem law_begin {k : Nat} (D : xDL Γ E mL_law 11 601024 7293034) (hX : xSc Γ E L xs) (hk : 7 * k + 7 ≤ L) (hk2 : k ≤ 512) (h : LW T I N d k x)
    (next : ∀ (z' : Nat) (I' : xI) (N' : xN) (x' : Dk) (lv : xL), lv 1 = some (.inr (.inr d)) → lv 2 = some (.inr (.inr (d + 494))) → lv 3 = some (.inr (.inr (d + 518))) → lv 4 = some (.inl ((7 * k : Nat) : Int)) → LW T I' N' d (k + 1) x' → VL Γ E (lw_Z (gb Γ) (ga Γ) (gs Γ)) z' T I' N' (519 + k + 1) (419245 + 6 * k + 6) 1167 lv []) :
    VL Γ E (lw_Z (gb Γ) (ga Γ) (gs Γ)) z T I N (519 + k) (419245 + 6 * k) 116 (xlv [none, some (.inr (.inr d)), some (.inr (.inr (d + 494))), some (.inr (.inr (d + 518))), some (.inl ((7 * k : Nat) : Int))]) [] := by
  obtain ⟨hd, hm, ho, hok⟩ := h
  have hO : OkO k (dBegin x ((xs (7 * k + 1)).toInt) ((xs (7 * k + 2)).toInt) ((xs (7 * k + 3)).toInt) (zLor (zLsh (xs (7 * k + 4)).toInt 32) (zLand (xs (7 * k + 5)).toInt 4294967295)) ((xs (7 * k + 6)).toInt)) := o_begin hok _ _ _ _ _
  refine VL_run D [] 117 rfl trivial ?_
  refine VL_sldK (i := 7 * k) (j := 1) D hX rfl rfl rfl rfl rfl rfl (by omega) ?_
  refine VL_sldK (i := 7 * k) (j := 2) D hX rfl rfl rfl rfl rfl rfl (by omega) ?_
  refine VL_sldK (i := 7 * k) (j := 3) D hX rfl rfl rfl rfl rfl rfl (by omega) ?_
  refine VL_sldK (i := 7 * k) (j := 4) D hX rfl rfl rfl rfl rfl rfl (by omega) ?_
  refine VL_run D [] 145 rfl ⟨xin32 _, trivial⟩ ?_
  refine VL_sldK (i := 7 * k) (j := 5) D hX rfl rfl rfl rfl rfl rfl (by omega) ?_
  refine VL_run D [] 157 rfl ⟨xin32 _, trivial⟩ ?_
  refine VL_sldB (i := 7 * k) D hX rfl rfl rfl rfl rfl rfl (by omega) ?_
  refine VL_callW (av := [.inr (.inr d), .inl ((xs (7 * k + 1)).toInt), .inl ((xs (7 * k + 2)).toInt), .inl ((xs (7 * k + 3)).toInt), .inr (.inl (zLor (zLsh (xs (7 * k + 4)).toInt 32) (zLand (xs (7 * k + 5)).toInt 4294967295))), .inl ((xs (7 * k + 6)).toInt)]) (st := []) D mwL_begin rfl lkL_L_begin (w_begin hd (xin32 _) (xin32 _) (xin32 _) (xin32 _) k_begin) rfl ⟨by omega, by omega⟩ (fun r z1 T1 I1 N1 P1 => ?_)
  obtain ⟨rfl, hz1, rfl, fI, fN, k1⟩ := P1
  have m1 : MdAt T1 I1 N1 (d + 494) x := hm.keptO hok.1.1 (fun a h1 h2 => fI a (by omega)) (fN _ (by omega))
  refine VL_run D [] 170 rfl trivial ?_
  refine VL_sldK (i := 7 * k) (j := 1) D hX rfl rfl rfl rfl rfl rfl (by omega) ?_
  refine VL_sldK (i := 7 * k) (j := 2) D hX rfl rfl rfl rfl rfl rfl (by omega) ?_
  refine VL_sldK (i := 7 * k) (j := 3) D hX rfl rfl rfl rfl rfl rfl (by omega) ?_
  refine VL_sldK (i := 7 * k) (j := 4) D hX rfl rfl rfl rfl rfl rfl (by omega) ?_
  refine VL_run D [] 198 rfl ⟨xin32 _, trivial⟩ ?_
  refine VL_sldK (i := 7 * k) (j := 5) D hX rfl rfl rfl rfl rfl rfl (by omega) ?_
  refine VL_run D [] 210 rfl ⟨xin32 _, trivial⟩ ?_
  refine VL_sldB (i := 7 * k) D hX rfl rfl rfl rfl rfl rfl (by omega) ?_
  refine VL_mdV (av := [.inl ((xs (7 * k + 1)).toInt), .inl ((xs (7 * k + 2)).toInt), .inl ((xs (7 * k + 3)).toInt), .inr (.inl (zLor (zLsh (xs (7 * k + 4)).toInt 32) (zLand (xs (7 * k + 5)).toInt 4294967295))), .inl ((xs (7 * k + 6)).toInt)]) (st := []) D.1 mwX10_begin rfl lkL_X10_begin (r_begin m1 hok.1.1 (xin32 _) (xin32 _) (xin32 _) (xin32 _)) m1.1.1 rfl ⟨by omega, by omega⟩ (fun r I2 P2 => ?_)
  obtain ⟨rfl, c2, o2, m2⟩ := P2
  have k2 : DkAt T1 I2 N1 d (dBegin x ((xs (7 * k + 1)).toInt) ((xs (7 * k + 2)).toInt) ((xs (7 * k + 3)).toInt) (zLor (zLsh (xs (7 * k + 4)).toInt 32) (zLand (xs (7 * k + 5)).toInt 4294967295)) ((xs (7 * k + 6)).toInt)).2.2 := k1.kept (fun a h1 h2 => ⟨o2 a (by omega), rfl⟩)
  refine VL_run D [] 221 rfl trivial ?_
  refine VL_askV (av := []) (st := []) D.1 mwX10_thrown rfl lkL_X10_thrown (r_thrown m2.1) m2.1.1 rfl ⟨by omega, by omega⟩ ?_
  rw [c2]
  refine VL_run D [] 226 rfl trivial ?_
  have hkk := k_begin (x := x) (ty := ((xs (7 * k + 1)).toInt)) (co := ((xs (7 * k + 2)).toInt)) (id := ((xs (7 * k + 3)).toInt)) (w := (zLor (zLsh (xs (7 * k + 4)).toInt 32) (zLand (xs (7 * k + 5)).toInt 4294967295))) (n := ((xs (7 * k + 6)).toInt))
  refine VL_ieq D.1 231 rfl rfl (by omega) (by omega) (fun _ => ?_) (fun q => absurd rfl q)
  refine VL_run D [1167] 1167 rfl trivial ?_
  exact next z1 I2 N1 _ _ rfl rfl rfl rfl ⟨k2, m2, ho, hO.1⟩
set_option maxRecDepth 8000 in
theorem law_option {k : Nat} (D : xDL Γ E mL_law 11 601024 7293034) (hX : xSc Γ E L xs) (hk : 7 * k + 7 ≤ L) (hk2 : k ≤ 512) (h : LW T I N d k x)
    (next : ∀ (z' : Nat) (I' : xI) (N' : xN) (x' : Dk) (lv : xL), lv 1 = some (.inr (.inr d)) → lv 2 = some (.inr (.inr (d + 494))) → lv 3 = some (.inr (.inr (d + 518))) → lv 4 = some (.inl ((7 * k : Nat) : Int)) → LW T I' N' d (k + 1) x' → VL Γ E (lw_Z (gb Γ) (ga Γ) (gs Γ)) z' T I' N' (519 + k + 1) (419245 + 6 * k + 6) 1167 lv []) :
    VL Γ E (lw_Z (gb Γ) (ga Γ) (gs Γ)) z T I N (519 + k) (419245 + 6 * k) 234 (xlv [none, some (.inr (.inr d)), some (.inr (.inr (d + 494))), some (.inr (.inr (d + 518))), some (.inl ((7 * k : Nat) : Int))]) [] := by
  obtain ⟨hd, hm, ho, hok⟩ := h
  have hO : OkO k (dOption x ((xs (7 * k + 1)).toInt) (zLor (zLsh (xs (7 * k + 2)).toInt 32) (zLand (xs (7 * k + 3)).toInt 4294967295)) ((xs (7 * k + 4)).toInt)) := o_option hok _ _ _
  refine VL_run D [] 235 rfl trivial ?_
  refine VL_sldK (i := 7 * k) (j := 1) D hX rfl rfl rfl rfl rfl rfl (by omega) ?_
  refine VL_sldK (i := 7 * k) (j := 2) D hX rfl rfl rfl rfl rfl rfl (by omega) ?_
  refine VL_run D [] 251 rfl ⟨xin32 _, trivial⟩ ?_
  refine VL_sldK (i := 7 * k) (j := 3) D hX rfl rfl rfl rfl rfl rfl (by omega) ?_
  refine VL_run D [] 263 rfl ⟨xin32 _, trivial⟩ ?_
  refine VL_sldK (i := 7 * k) (j := 4) D hX rfl rfl rfl rfl rfl rfl (by omega) ?_
  refine VL_run D [] 270 rfl trivial ?_
  refine VL_callW (av := [.inr (.inr d), .inl ((xs (7 * k + 1)).toInt), .inr (.inl (zLor (zLsh (xs (7 * k + 2)).toInt 32) (zLand (xs (7 * k + 3)).toInt 4294967295))), .inl ((xs (7 * k + 4)).toInt), .inr (.inr (d + 518))]) (st := []) D mwL_option rfl lkL_L_option (w_option hd hok.1 (xin32 _) (xin32 _) ho (by omega) k_option hO.2) rfl ⟨by omega, by omega⟩ (fun r z1 T1 I1 N1 P1 => ?_)
  obtain ⟨rfl, hz1, rfl, fI, fN, k1, ho1⟩ := P1
  have m1 : MdAt T1 I1 N1 (d + 494) x := hm.keptO hok.1.1 (fun a h1 h2 => fI a (by omega) (by omega)) (fN _ (by omega))
  refine VL_run D [] 276 rfl trivial ?_
  refine VL_sldK (i := 7 * k) (j := 1) D hX rfl rfl rfl rfl rfl rfl (by omega) ?_
  refine VL_sldK (i := 7 * k) (j := 2) D hX rfl rfl rfl rfl rfl rfl (by omega) ?_
  refine VL_run D [] 292 rfl ⟨xin32 _, trivial⟩ ?_
  refine VL_sldK (i := 7 * k) (j := 3) D hX rfl rfl rfl rfl rfl rfl (by omega) ?_
  refine VL_run D [] 304 rfl ⟨xin32 _, trivial⟩ ?_
  refine VL_sldK (i := 7 * k) (j := 4) D hX rfl rfl rfl rfl rfl rfl (by omega) ?_
  refine VL_mdV (av := [.inl ((xs (7 * k + 1)).toInt), .inr (.inl (zLor (zLsh (xs (7 * k + 2)).toInt 32) (zLand (xs (7 * k + 3)).toInt 4294967295))), .inl ((xs (7 * k + 4)).toInt)]) (st := []) D.1 mwX10_option rfl lkL_X10_option (r_option m1 hok.1.1 (xin32 _) (xin32 _)) m1.1.1 rfl ⟨by omega, by omega⟩ (fun r I2 P2 => ?_)
  obtain ⟨rfl, c2, o2, m2⟩ := P2
  have k2 : DkAt T1 I2 N1 d (dOption x ((xs (7 * k + 1)).toInt) (zLor (zLsh (xs (7 * k + 2)).toInt 32) (zLand (xs (7 * k + 3)).toInt 4294967295)) ((xs (7 * k + 4)).toInt)).2.2 := k1.kept (fun a h1 h2 => ⟨o2 a (by omega), rfl⟩)
  refine VL_run D [] 316 rfl trivial ?_
  refine VL_askV (av := []) (st := []) D.1 mwX10_thrown rfl lkL_X10_thrown (r_thrown m2.1) m2.1.1 rfl ⟨by omega, by omega⟩ ?_
  rw [c2]
  refine VL_run D [] 321 rfl trivial ?_
  have hkk := k_option (x := x) (num := ((xs (7 * k + 1)).toInt)) (w := (zLor (zLsh (xs (7 * k + 2)).toInt 32) (zLand (xs (7 * k + 3)).toInt 4294967295))) (n := ((xs (7 * k + 4)).toInt))
  refine VL_ieq D.1 326 rfl rfl (by omega) (by omega) (fun _ => ?_) (fun q => absurd rfl q)
  refine VL_run D [] 328 rfl trivial ?_
  refine VL_ne D.1 343 rfl rfl (by omega) (fun q => ?_) (fun q => ?_)
  · refine VL_run D [1167] 1167 rfl trivial ?_
    exact next z1 I2 N1 _ _ rfl rfl rfl rfl ⟨k2, m2, ho, hO.1⟩
  · have eo : I2 (d + 518) 0 = (dOption x ((xs (7 * k + 1)).toInt) (zLor (zLsh (xs (7 * k + 2)).toInt 32) (zLand (xs (7 * k + 3)).toInt 4294967295)) ((xs (7 * k + 4)).toInt)).2.1 := by rw [o2 _ (by omega)]; exact ho1 (by omega)
    have hv := hO.2
    refine VL_run D [] 338 rfl ⟨⟨by show xIl (I2 (d + 518) 0); rw [eo]; constructor <;> omega, by constructor <;> omega⟩, hv, ⟨1, ho, by decide, by decide⟩, trivial⟩ ?_
    rw [show ((0 : Int)).toNat = 0 from rfl, eo]
    refine VL_eq D.1 343 rfl rfl (zCmp_in _ _) (fun _ => ?_) (fun q => absurd (zCmp_0.mpr rfl) q)
    refine VL_run D [1167] 1167 rfl trivial ?_
    exact next z1 I2 N1 _ _ rfl rfl rfl rfl ⟨k2, m2, ho, hO.1⟩
set_option maxRecDepth 8000 in
theorem law_longer {k : Nat} (D : xDL Γ E mL_law 11 601024 7293034) (hX : xSc Γ E L xs) (hk : 7 * k + 7 ≤ L) (hk2 : k ≤ 512) (h : LW T I N d k x)
    (next : ∀ (z' : Nat) (I' : xI) (N' : xN) (x' : Dk) (lv : xL), lv 1 = some (.inr (.inr d)) → lv 2 = some (.inr (.inr (d + 494))) → lv 3 = some (.inr (.inr (d + 518))) → lv 4 = some (.inl ((7 * k : Nat) : Int)) → LW T I' N' d (k + 1) x' → VL Γ E (lw_Z (gb Γ) (ga Γ) (gs Γ)) z' T I' N' (519 + k + 1) (419245 + 6 * k + 6) 1167 lv []) :
    VL Γ E (lw_Z (gb Γ) (ga Γ) (gs Γ)) z T I N (519 + k) (419245 + 6 * k) 346 (xlv [none, some (.inr (.inr d)), some (.inr (.inr (d + 494))), some (.inr (.inr (d + 518))), some (.inl ((7 * k : Nat) : Int))]) [] := by
  obtain ⟨hd, hm, ho, hok⟩ := h
  have hO : OkO k (dLonger x (zLor (zLsh (xs (7 * k + 1)).toInt 32) (zLand (xs (7 * k + 2)).toInt 4294967295)) ((xs (7 * k + 3)).toInt)) := o_longer hok hm.lat _ _
  refine VL_run D [] 347 rfl trivial ?_
  refine VL_sldK (i := 7 * k) (j := 1) D hX rfl rfl rfl rfl rfl rfl (by omega) ?_
  refine VL_run D [] 357 rfl ⟨xin32 _, trivial⟩ ?_
  refine VL_sldK (i := 7 * k) (j := 2) D hX rfl rfl rfl rfl rfl rfl (by omega) ?_
  refine VL_run D [] 369 rfl ⟨xin32 _, trivial⟩ ?_
  refine VL_sldK (i := 7 * k) (j := 3) D hX rfl rfl rfl rfl rfl rfl (by omega) ?_
  refine VL_run D [] 376 rfl trivial ?_
  refine VL_callW (av := [.inr (.inr d), .inr (.inl (zLor (zLsh (xs (7 * k + 1)).toInt 32) (zLand (xs (7 * k + 2)).toInt 4294967295))), .inl ((xs (7 * k + 3)).toInt), .inr (.inr (d + 518))]) (st := []) D mwL_longer rfl lkL_L_longer (w_longer hd (xin32 _) ho (by omega) k_longer hO.2) rfl ⟨by omega, by omega⟩ (fun r z1 T1 I1 N1 P1 => ?_)
  obtain ⟨rfl, hz1, rfl, fI, fN, k1, ho1⟩ := P1
  have m1 : MdAt T1 I1 N1 (d + 494) x := hm.keptO hok.1.1 (fun a h1 h2 => fI a (by omega) (by omega)) (fN _ (by omega))
  refine VL_run D [] 382 rfl trivial ?_
  refine VL_sldK (i := 7 * k) (j := 1) D hX rfl rfl rfl rfl rfl rfl (by omega) ?_
  refine VL_run D [] 392 rfl ⟨xin32 _, trivial⟩ ?_
  refine VL_sldK (i := 7 * k) (j := 2) D hX rfl rfl rfl rfl rfl rfl (by omega) ?_
  refine VL_run D [] 404 rfl ⟨xin32 _, trivial⟩ ?_
  refine VL_sldK (i := 7 * k) (j := 3) D hX rfl rfl rfl rfl rfl rfl (by omega) ?_
  refine VL_mdV (av := [.inr (.inl (zLor (zLsh (xs (7 * k + 1)).toInt 32) (zLand (xs (7 * k + 2)).toInt 4294967295))), .inl ((xs (7 * k + 3)).toInt)]) (st := []) D.1 mwX10_longer_ rfl lkL_X10_longer_ (r_longer_ m1 hok.1.1 (xin32 _)) m1.1.1 rfl ⟨by omega, by omega⟩ (fun r I2 P2 => ?_)
  obtain ⟨rfl, c2, o2, m2⟩ := P2
  have k2 : DkAt T1 I2 N1 d (dLonger x (zLor (zLsh (xs (7 * k + 1)).toInt 32) (zLand (xs (7 * k + 2)).toInt 4294967295)) ((xs (7 * k + 3)).toInt)).2.2 := k1.kept (fun a h1 h2 => ⟨o2 a (by omega), rfl⟩)
  refine VL_run D [] 416 rfl trivial ?_
  refine VL_askV (av := []) (st := []) D.1 mwX10_thrown rfl lkL_X10_thrown (r_thrown m2.1) m2.1.1 rfl ⟨by omega, by omega⟩ ?_
  rw [c2]
  refine VL_run D [] 421 rfl trivial ?_
  have hkk := k_longer (x := x) (w := (zLor (zLsh (xs (7 * k + 1)).toInt 32) (zLand (xs (7 * k + 2)).toInt 4294967295))) (n := ((xs (7 * k + 3)).toInt))
  refine VL_ieq D.1 426 rfl rfl (by omega) (by omega) (fun _ => ?_) (fun q => absurd rfl q)
  refine VL_run D [] 428 rfl trivial ?_
  refine VL_ne D.1 443 rfl rfl (by omega) (fun q => ?_) (fun q => ?_)
  · refine VL_run D [1167] 1167 rfl trivial ?_
    exact next z1 I2 N1 _ _ rfl rfl rfl rfl ⟨k2, m2, ho, hO.1⟩
  · have eo : I2 (d + 518) 0 = (dLonger x (zLor (zLsh (xs (7 * k + 1)).toInt 32) (zLand (xs (7 * k + 2)).toInt 4294967295)) ((xs (7 * k + 3)).toInt)).2.1 := by rw [o2 _ (by omega)]; exact ho1 (by omega)
    have hv := hO.2
    refine VL_run D [] 438 rfl ⟨⟨by show xIl (I2 (d + 518) 0); rw [eo]; constructor <;> omega, by constructor <;> omega⟩, hv, ⟨1, ho, by decide, by decide⟩, trivial⟩ ?_
    rw [show ((0 : Int)).toNat = 0 from rfl, eo]
    refine VL_eq D.1 443 rfl rfl (zCmp_in _ _) (fun _ => ?_) (fun q => absurd (zCmp_0.mpr rfl) q)
    refine VL_run D [1167] 1167 rfl trivial ?_
    exact next z1 I2 N1 _ _ rfl rfl rfl rfl ⟨k2, m2, ho, hO.1⟩
set_option maxRecDepth 8000 in
theorem law_payload {k : Nat} (D : xDL Γ E mL_law 11 601024 7293034) (hX : xSc Γ E L xs) (hk : 7 * k + 7 ≤ L) (hk2 : k ≤ 512) (h : LW T I N d k x)
    (next : ∀ (z' : Nat) (I' : xI) (N' : xN) (x' : Dk) (lv : xL), lv 1 = some (.inr (.inr d)) → lv 2 = some (.inr (.inr (d + 494))) → lv 3 = some (.inr (.inr (d + 518))) → lv 4 = some (.inl ((7 * k : Nat) : Int)) → LW T I' N' d (k + 1) x' → VL Γ E (lw_Z (gb Γ) (ga Γ) (gs Γ)) z' T I' N' (519 + k + 1) (419245 + 6 * k + 6) 1167 lv []) :
    VL Γ E (lw_Z (gb Γ) (ga Γ) (gs Γ)) z T I N (519 + k) (419245 + 6 * k) 446 (xlv [none, some (.inr (.inr d)), some (.inr (.inr (d + 494))), some (.inr (.inr (d + 518))), some (.inl ((7 * k : Nat) : Int))]) [] := by
  obtain ⟨hd, hm, ho, hok⟩ := h
  have hO : OkO k (dPayload x (zLor (zLsh (xs (7 * k + 1)).toInt 32) (zLand (xs (7 * k + 2)).toInt 4294967295)) ((xs (7 * k + 3)).toInt)) := o_payload hok _ _
  refine VL_run D [] 447 rfl trivial ?_
  refine VL_sldK (i := 7 * k) (j := 1) D hX rfl rfl rfl rfl rfl rfl (by omega) ?_
  refine VL_run D [] 457 rfl ⟨xin32 _, trivial⟩ ?_
  refine VL_sldK (i := 7 * k) (j := 2) D hX rfl rfl rfl rfl rfl rfl (by omega) ?_
  refine VL_run D [] 469 rfl ⟨xin32 _, trivial⟩ ?_
  refine VL_sldK (i := 7 * k) (j := 3) D hX rfl rfl rfl rfl rfl rfl (by omega) ?_
  refine VL_run D [] 476 rfl trivial ?_
  refine VL_callW (av := [.inr (.inr d), .inr (.inl (zLor (zLsh (xs (7 * k + 1)).toInt 32) (zLand (xs (7 * k + 2)).toInt 4294967295))), .inl ((xs (7 * k + 3)).toInt), .inr (.inr (d + 518))]) (st := []) D mwL_payload rfl lkL_L_payload (w_payload hd (xin32 _) ho (by omega) k_payload hO.2) rfl ⟨by omega, by omega⟩ (fun r z1 T1 I1 N1 P1 => ?_)
  obtain ⟨rfl, hz1, rfl, fI, fN, k1, ho1⟩ := P1
  have m1 : MdAt T1 I1 N1 (d + 494) x := hm.keptO hok.1.1 (fun a h1 h2 => fI a (by omega) (by omega)) (fN _ (by omega))
  refine VL_run D [] 482 rfl trivial ?_
  refine VL_sldK (i := 7 * k) (j := 1) D hX rfl rfl rfl rfl rfl rfl (by omega) ?_
  refine VL_run D [] 492 rfl ⟨xin32 _, trivial⟩ ?_
  refine VL_sldK (i := 7 * k) (j := 2) D hX rfl rfl rfl rfl rfl rfl (by omega) ?_
  refine VL_run D [] 504 rfl ⟨xin32 _, trivial⟩ ?_
  refine VL_sldK (i := 7 * k) (j := 3) D hX rfl rfl rfl rfl rfl rfl (by omega) ?_
  refine VL_mdV (av := [.inr (.inl (zLor (zLsh (xs (7 * k + 1)).toInt 32) (zLand (xs (7 * k + 2)).toInt 4294967295))), .inl ((xs (7 * k + 3)).toInt)]) (st := []) D.1 mwX10_payload rfl lkL_X10_payload (r_payload m1 hok.1.1 (xin32 _)) m1.1.1 rfl ⟨by omega, by omega⟩ (fun r I2 P2 => ?_)
  obtain ⟨rfl, c2, o2, m2⟩ := P2
  have k2 : DkAt T1 I2 N1 d (dPayload x (zLor (zLsh (xs (7 * k + 1)).toInt 32) (zLand (xs (7 * k + 2)).toInt 4294967295)) ((xs (7 * k + 3)).toInt)).2.2 := k1.kept (fun a h1 h2 => ⟨o2 a (by omega), rfl⟩)
  refine VL_run D [] 516 rfl trivial ?_
  refine VL_askV (av := []) (st := []) D.1 mwX10_thrown rfl lkL_X10_thrown (r_thrown m2.1) m2.1.1 rfl ⟨by omega, by omega⟩ ?_
  rw [c2]
  refine VL_run D [] 521 rfl trivial ?_
  have hkk := k_payload (x := x) (w := (zLor (zLsh (xs (7 * k + 1)).toInt 32) (zLand (xs (7 * k + 2)).toInt 4294967295))) (n := ((xs (7 * k + 3)).toInt))
  refine VL_ieq D.1 526 rfl rfl (by omega) (by omega) (fun _ => ?_) (fun q => absurd rfl q)
  refine VL_run D [] 528 rfl trivial ?_
  refine VL_ne D.1 543 rfl rfl (by omega) (fun q => ?_) (fun q => ?_)
  · refine VL_run D [1167] 1167 rfl trivial ?_
    exact next z1 I2 N1 _ _ rfl rfl rfl rfl ⟨k2, m2, ho, hO.1⟩
  · have eo : I2 (d + 518) 0 = (dPayload x (zLor (zLsh (xs (7 * k + 1)).toInt 32) (zLand (xs (7 * k + 2)).toInt 4294967295)) ((xs (7 * k + 3)).toInt)).2.1 := by rw [o2 _ (by omega)]; exact ho1 (by omega)
    have hv := hO.2
    refine VL_run D [] 538 rfl ⟨⟨by show xIl (I2 (d + 518) 0); rw [eo]; constructor <;> omega, by constructor <;> omega⟩, hv, ⟨1, ho, by decide, by decide⟩, trivial⟩ ?_
    rw [show ((0 : Int)).toNat = 0 from rfl, eo]
    refine VL_eq D.1 543 rfl rfl (zCmp_in _ _) (fun _ => ?_) (fun q => absurd (zCmp_0.mpr rfl) q)
    refine VL_run D [1167] 1167 rfl trivial ?_
    exact next z1 I2 N1 _ _ rfl rfl rfl rfl ⟨k2, m2, ho, hO.1⟩
set_option maxRecDepth 8000 in
theorem law_write {k : Nat} (D : xDL Γ E mL_law 11 601024 7293034) (hX : xSc Γ E L xs) (hk : 7 * k + 7 ≤ L) (hk2 : k ≤ 512) (h : LW T I N d k x)
    (next : ∀ (z' : Nat) (I' : xI) (N' : xN) (x' : Dk) (lv : xL), lv 1 = some (.inr (.inr d)) → lv 2 = some (.inr (.inr (d + 494))) → lv 3 = some (.inr (.inr (d + 518))) → lv 4 = some (.inl ((7 * k : Nat) : Int)) → LW T I' N' d (k + 1) x' → VL Γ E (lw_Z (gb Γ) (ga Γ) (gs Γ)) z' T I' N' (519 + k + 1) (419245 + 6 * k + 6) 1167 lv []) :
    VL Γ E (lw_Z (gb Γ) (ga Γ) (gs Γ)) z T I N (519 + k) (419245 + 6 * k) 546 (xlv [none, some (.inr (.inr d)), some (.inr (.inr (d + 494))), some (.inr (.inr (d + 518))), some (.inl ((7 * k : Nat) : Int))]) [] := by
  obtain ⟨hd, hm, ho, hok⟩ := h
  have hO : OkO k (dWrite x) := o_write hok
  refine VL_run D [] 548 rfl trivial ?_
  refine VL_callW (av := [.inr (.inr d), .inr (.inr (d + 518))]) (st := []) D mwL_write rfl lkL_L_write (w_write hd hok.1 ho (by omega) k_write hO.2) rfl ⟨by omega, by omega⟩ (fun r z1 T1 I1 N1 P1 => ?_)
  obtain ⟨rfl, hz1, rfl, fI, fN, k1, ho1⟩ := P1
  have m1 : MdAt T1 I1 N1 (d + 494) x := hm.keptO hok.1.1 (fun a h1 h2 => fI a (by omega) (by omega)) (fN _ (by omega))
  refine VL_run D [] 554 rfl trivial ?_
  refine VL_mdV (av := []) (st := []) D.1 mwX10_write rfl lkL_X10_write (r_write m1 hok.1.1) m1.1.1 rfl ⟨by omega, by omega⟩ (fun r I2 P2 => ?_)
  obtain ⟨rfl, c2, o2, m2⟩ := P2
  have k2 : DkAt T1 I2 N1 d (dWrite x).2.2 := k1.kept (fun a h1 h2 => ⟨o2 a (by omega), rfl⟩)
  refine VL_run D [] 560 rfl trivial ?_
  refine VL_askV (av := []) (st := []) D.1 mwX10_thrown rfl lkL_X10_thrown (r_thrown m2.1) m2.1.1 rfl ⟨by omega, by omega⟩ ?_
  rw [c2]
  refine VL_run D [] 565 rfl trivial ?_
  have hkk := k_write (x := x)
  refine VL_ieq D.1 570 rfl rfl (by omega) (by omega) (fun _ => ?_) (fun q => absurd rfl q)
  refine VL_run D [] 572 rfl trivial ?_
  refine VL_ne D.1 587 rfl rfl (by omega) (fun q => ?_) (fun q => ?_)
  · refine VL_run D [1167] 1167 rfl trivial ?_
    exact next z1 I2 N1 _ _ rfl rfl rfl rfl ⟨k2, m2, ho, hO.1⟩
  · have eo : I2 (d + 518) 0 = (dWrite x).2.1 := by rw [o2 _ (by omega)]; exact ho1 (by omega)
    have hv := hO.2
    refine VL_run D [] 582 rfl ⟨⟨by show xIl (I2 (d + 518) 0); rw [eo]; constructor <;> omega, by constructor <;> omega⟩, hv, ⟨1, ho, by decide, by decide⟩, trivial⟩ ?_
    rw [show ((0 : Int)).toNat = 0 from rfl, eo]
    refine VL_eq D.1 587 rfl rfl (zCmp_in _ _) (fun _ => ?_) (fun q => absurd (zCmp_0.mpr rfl) q)
    refine VL_run D [1167] 1167 rfl trivial ?_
    exact next z1 I2 N1 _ _ rfl rfl rfl rfl ⟨k2, m2, ho, hO.1⟩
set_option maxRecDepth 8000 in
theorem law_feed {k : Nat} (D : xDL Γ E mL_law 11 601024 7293034) (hX : xSc Γ E L xs) (hk : 7 * k + 7 ≤ L) (hk2 : k ≤ 512) (h : LW T I N d k x)
    (next : ∀ (z' : Nat) (I' : xI) (N' : xN) (x' : Dk) (lv : xL), lv 1 = some (.inr (.inr d)) → lv 2 = some (.inr (.inr (d + 494))) → lv 3 = some (.inr (.inr (d + 518))) → lv 4 = some (.inl ((7 * k : Nat) : Int)) → LW T I' N' d (k + 1) x' → VL Γ E (lw_Z (gb Γ) (ga Γ) (gs Γ)) z' T I' N' (519 + k + 1) (419245 + 6 * k + 6) 1167 lv []) :
    VL Γ E (lw_Z (gb Γ) (ga Γ) (gs Γ)) z T I N (519 + k) (419245 + 6 * k) 590 (xlv [none, some (.inr (.inr d)), some (.inr (.inr (d + 494))), some (.inr (.inr (d + 518))), some (.inl ((7 * k : Nat) : Int))]) [] := by
  obtain ⟨hd, hm, ho, hok⟩ := h
  have hO : OkO k (dFeed x (zLor (zLsh (xs (7 * k + 1)).toInt 32) (zLand (xs (7 * k + 2)).toInt 4294967295)) ((xs (7 * k + 3)).toInt)) := o_feed hok _ _
  refine VL_run D [] 591 rfl trivial ?_
  refine VL_sldK (i := 7 * k) (j := 1) D hX rfl rfl rfl rfl rfl rfl (by omega) ?_
  refine VL_run D [] 601 rfl ⟨xin32 _, trivial⟩ ?_
  refine VL_sldK (i := 7 * k) (j := 2) D hX rfl rfl rfl rfl rfl rfl (by omega) ?_
  refine VL_run D [] 613 rfl ⟨xin32 _, trivial⟩ ?_
  refine VL_sldK (i := 7 * k) (j := 3) D hX rfl rfl rfl rfl rfl rfl (by omega) ?_
  refine VL_run D [] 620 rfl trivial ?_
  refine VL_callW (av := [.inr (.inr d), .inr (.inl (zLor (zLsh (xs (7 * k + 1)).toInt 32) (zLand (xs (7 * k + 2)).toInt 4294967295))), .inl ((xs (7 * k + 3)).toInt), .inr (.inr (d + 518))]) (st := []) D mwL_feed rfl lkL_L_feed (w_feed hd (xin32 _) ho (by omega) k_feed hO.2) rfl ⟨by omega, by omega⟩ (fun r z1 T1 I1 N1 P1 => ?_)
  obtain ⟨rfl, hz1, rfl, fI, fN, k1, ho1⟩ := P1
  have m1 : MdAt T1 I1 N1 (d + 494) x := hm.keptO hok.1.1 (fun a h1 h2 => fI a (by omega) (by omega)) (fN _ (by omega))
  refine VL_run D [] 626 rfl trivial ?_
  refine VL_sldK (i := 7 * k) (j := 1) D hX rfl rfl rfl rfl rfl rfl (by omega) ?_
  refine VL_run D [] 636 rfl ⟨xin32 _, trivial⟩ ?_
  refine VL_sldK (i := 7 * k) (j := 2) D hX rfl rfl rfl rfl rfl rfl (by omega) ?_
  refine VL_run D [] 648 rfl ⟨xin32 _, trivial⟩ ?_
  refine VL_sldK (i := 7 * k) (j := 3) D hX rfl rfl rfl rfl rfl rfl (by omega) ?_
  refine VL_mdV (av := [.inr (.inl (zLor (zLsh (xs (7 * k + 1)).toInt 32) (zLand (xs (7 * k + 2)).toInt 4294967295))), .inl ((xs (7 * k + 3)).toInt)]) (st := []) D.1 mwX10_feed rfl lkL_X10_feed (r_feed m1 hok.1.1 (xin32 _)) m1.1.1 rfl ⟨by omega, by omega⟩ (fun r I2 P2 => ?_)
  obtain ⟨rfl, c2, o2, m2⟩ := P2
  have k2 : DkAt T1 I2 N1 d (dFeed x (zLor (zLsh (xs (7 * k + 1)).toInt 32) (zLand (xs (7 * k + 2)).toInt 4294967295)) ((xs (7 * k + 3)).toInt)).2.2 := k1.kept (fun a h1 h2 => ⟨o2 a (by omega), rfl⟩)
  refine VL_run D [] 660 rfl trivial ?_
  refine VL_askV (av := []) (st := []) D.1 mwX10_thrown rfl lkL_X10_thrown (r_thrown m2.1) m2.1.1 rfl ⟨by omega, by omega⟩ ?_
  rw [c2]
  refine VL_run D [] 665 rfl trivial ?_
  have hkk := k_feed (x := x) (w := (zLor (zLsh (xs (7 * k + 1)).toInt 32) (zLand (xs (7 * k + 2)).toInt 4294967295))) (n := ((xs (7 * k + 3)).toInt))
  refine VL_ieq D.1 670 rfl rfl (by omega) (by omega) (fun _ => ?_) (fun q => absurd rfl q)
  refine VL_run D [] 672 rfl trivial ?_
  refine VL_ne D.1 687 rfl rfl (by omega) (fun q => ?_) (fun q => ?_)
  · refine VL_run D [1167] 1167 rfl trivial ?_
    exact next z1 I2 N1 _ _ rfl rfl rfl rfl ⟨k2, m2, ho, hO.1⟩
  · have eo : I2 (d + 518) 0 = (dFeed x (zLor (zLsh (xs (7 * k + 1)).toInt 32) (zLand (xs (7 * k + 2)).toInt 4294967295)) ((xs (7 * k + 3)).toInt)).2.1 := by rw [o2 _ (by omega)]; exact ho1 (by omega)
    have hv := hO.2
    refine VL_run D [] 682 rfl ⟨⟨by show xIl (I2 (d + 518) 0); rw [eo]; constructor <;> omega, by constructor <;> omega⟩, hv, ⟨1, ho, by decide, by decide⟩, trivial⟩ ?_
    rw [show ((0 : Int)).toNat = 0 from rfl, eo]
    refine VL_eq D.1 687 rfl rfl (zCmp_in _ _) (fun _ => ?_) (fun q => absurd (zCmp_0.mpr rfl) q)
    refine VL_run D [1167] 1167 rfl trivial ?_
    exact next z1 I2 N1 _ _ rfl rfl rfl rfl ⟨k2, m2, ho, hO.1⟩
set_option maxRecDepth 8000 in
theorem law_end {k : Nat} (D : xDL Γ E mL_law 11 601024 7293034) (hX : xSc Γ E L xs) (hk : 7 * k + 7 ≤ L) (hk2 : k ≤ 512) (h : LW T I N d k x)
    (next : ∀ (z' : Nat) (I' : xI) (N' : xN) (x' : Dk) (lv : xL), lv 1 = some (.inr (.inr d)) → lv 2 = some (.inr (.inr (d + 494))) → lv 3 = some (.inr (.inr (d + 518))) → lv 4 = some (.inl ((7 * k : Nat) : Int)) → LW T I' N' d (k + 1) x' → VL Γ E (lw_Z (gb Γ) (ga Γ) (gs Γ)) z' T I' N' (519 + k + 1) (419245 + 6 * k + 6) 1167 lv []) :
    VL Γ E (lw_Z (gb Γ) (ga Γ) (gs Γ)) z T I N (519 + k) (419245 + 6 * k) 690 (xlv [none, some (.inr (.inr d)), some (.inr (.inr (d + 494))), some (.inr (.inr (d + 518))), some (.inl ((7 * k : Nat) : Int))]) [] := by
  obtain ⟨hd, hm, ho, hok⟩ := h
  have hO : OkO k (dEnd x ((xs (7 * k + 1)).toInt)) := o_end hok _
  refine VL_run D [] 691 rfl trivial ?_
  refine VL_sldK (i := 7 * k) (j := 1) D hX rfl rfl rfl rfl rfl rfl (by omega) ?_
  refine VL_callW (av := [.inr (.inr d), .inl ((xs (7 * k + 1)).toInt)]) (st := []) D mwL_end rfl lkL_L_end (w_end hd (xin32 _) k_end) rfl ⟨by omega, by omega⟩ (fun r z1 T1 I1 N1 P1 => ?_)
  obtain ⟨rfl, hz1, rfl, fI, fN, k1⟩ := P1
  have m1 : MdAt T1 I1 N1 (d + 494) x := hm.keptO hok.1.1 (fun a h1 h2 => fI a (by omega)) (fN _ (by omega))
  refine VL_run D [] 703 rfl trivial ?_
  refine VL_sldK (i := 7 * k) (j := 1) D hX rfl rfl rfl rfl rfl rfl (by omega) ?_
  refine VL_mdV (av := [.inl ((xs (7 * k + 1)).toInt)]) (st := []) D.1 mwX10_end rfl lkL_X10_end (r_end m1 hok.1.1 (xin32 _)) m1.1.1 rfl ⟨by omega, by omega⟩ (fun r I2 P2 => ?_)
  obtain ⟨rfl, c2, o2, m2⟩ := P2
  have k2 : DkAt T1 I2 N1 d (dEnd x ((xs (7 * k + 1)).toInt)).2.2 := k1.kept (fun a h1 h2 => ⟨o2 a (by omega), rfl⟩)
  refine VL_run D [] 713 rfl trivial ?_
  refine VL_askV (av := []) (st := []) D.1 mwX10_thrown rfl lkL_X10_thrown (r_thrown m2.1) m2.1.1 rfl ⟨by omega, by omega⟩ ?_
  rw [c2]
  refine VL_run D [] 718 rfl trivial ?_
  have hkk := k_end (x := x) (n := ((xs (7 * k + 1)).toInt))
  refine VL_ieq D.1 723 rfl rfl (by omega) (by omega) (fun _ => ?_) (fun q => absurd rfl q)
  refine VL_run D [1167] 1167 rfl trivial ?_
  exact next z1 I2 N1 _ _ rfl rfl rfl rfl ⟨k2, m2, ho, hO.1⟩
set_option maxRecDepth 8000 in
theorem law_read {k : Nat} (D : xDL Γ E mL_law 11 601024 7293034) (hX : xSc Γ E L xs) (hk : 7 * k + 7 ≤ L) (hk2 : k ≤ 512) (h : LW T I N d k x)
    (next : ∀ (z' : Nat) (I' : xI) (N' : xN) (x' : Dk) (lv : xL), lv 1 = some (.inr (.inr d)) → lv 2 = some (.inr (.inr (d + 494))) → lv 3 = some (.inr (.inr (d + 518))) → lv 4 = some (.inl ((7 * k : Nat) : Int)) → LW T I' N' d (k + 1) x' → VL Γ E (lw_Z (gb Γ) (ga Γ) (gs Γ)) z' T I' N' (519 + k + 1) (419245 + 6 * k + 6) 1167 lv []) :
    VL Γ E (lw_Z (gb Γ) (ga Γ) (gs Γ)) z T I N (519 + k) (419245 + 6 * k) 726 (xlv [none, some (.inr (.inr d)), some (.inr (.inr (d + 494))), some (.inr (.inr (d + 518))), some (.inl ((7 * k : Nat) : Int))]) [] := by
  obtain ⟨hd, hm, ho, hok⟩ := h
  have hO : OkO k (dRead x) := o_read hok hm.2.1.1.2.2
  refine VL_run D [] 728 rfl trivial ?_
  refine VL_callW (av := [.inr (.inr d), .inr (.inr (d + 518))]) (st := []) D mwL_read rfl lkL_L_read (w_read hd ho (by omega) k_read hO.2) rfl ⟨by omega, by omega⟩ (fun r z1 T1 I1 N1 P1 => ?_)
  obtain ⟨rfl, hz1, rfl, fI, fN, k1, ho1⟩ := P1
  have m1 : MdAt T1 I1 N1 (d + 494) x := hm.keptO hok.1.1 (fun a h1 h2 => fI a (by omega) (by omega)) (fN _ (by omega))
  refine VL_run D [] 734 rfl trivial ?_
  refine VL_mdV (av := []) (st := []) D.1 mwX10_read rfl lkL_X10_read (r_read m1 hok.1.1) m1.1.1 rfl ⟨by omega, by omega⟩ (fun r I2 P2 => ?_)
  obtain ⟨rfl, c2, o2, m2⟩ := P2
  have k2 : DkAt T1 I2 N1 d (dRead x).2.2 := k1.kept (fun a h1 h2 => ⟨o2 a (by omega), rfl⟩)
  refine VL_run D [] 740 rfl trivial ?_
  refine VL_askV (av := []) (st := []) D.1 mwX10_thrown rfl lkL_X10_thrown (r_thrown m2.1) m2.1.1 rfl ⟨by omega, by omega⟩ ?_
  rw [c2]
  refine VL_run D [] 745 rfl trivial ?_
  have hkk := k_read (x := x)
  refine VL_ieq D.1 750 rfl rfl (by omega) (by omega) (fun _ => ?_) (fun q => absurd rfl q)
  refine VL_run D [] 752 rfl trivial ?_
  refine VL_ne D.1 767 rfl rfl (by omega) (fun q => ?_) (fun q => ?_)
  · refine VL_run D [1167] 1167 rfl trivial ?_
    exact next z1 I2 N1 _ _ rfl rfl rfl rfl ⟨k2, m2, ho, hO.1⟩
  · have eo : I2 (d + 518) 0 = (dRead x).2.1 := by rw [o2 _ (by omega)]; exact ho1 (by omega)
    have hv := hO.2
    refine VL_run D [] 762 rfl ⟨⟨by show xIl (I2 (d + 518) 0); rw [eo]; constructor <;> omega, by constructor <;> omega⟩, hv, ⟨1, ho, by decide, by decide⟩, trivial⟩ ?_
    rw [show ((0 : Int)).toNat = 0 from rfl, eo]
    refine VL_eq D.1 767 rfl rfl (zCmp_in _ _) (fun _ => ?_) (fun q => absurd (zCmp_0.mpr rfl) q)
    refine VL_run D [1167] 1167 rfl trivial ?_
    exact next z1 I2 N1 _ _ rfl rfl rfl rfl ⟨k2, m2, ho, hO.1⟩
set_option maxRecDepth 8000 in
theorem law_about {k : Nat} (D : xDL Γ E mL_law 11 601024 7293034) (hX : xSc Γ E L xs) (hk : 7 * k + 7 ≤ L) (hk2 : k ≤ 512) (h : LW T I N d k x)
    (next : ∀ (z' : Nat) (I' : xI) (N' : xN) (x' : Dk) (lv : xL), lv 1 = some (.inr (.inr d)) → lv 2 = some (.inr (.inr (d + 494))) → lv 3 = some (.inr (.inr (d + 518))) → lv 4 = some (.inl ((7 * k : Nat) : Int)) → LW T I' N' d (k + 1) x' → VL Γ E (lw_Z (gb Γ) (ga Γ) (gs Γ)) z' T I' N' (519 + k + 1) (419245 + 6 * k + 6) 1167 lv []) :
    VL Γ E (lw_Z (gb Γ) (ga Γ) (gs Γ)) z T I N (519 + k) (419245 + 6 * k) 770 (xlv [none, some (.inr (.inr d)), some (.inr (.inr (d + 494))), some (.inr (.inr (d + 518))), some (.inl ((7 * k : Nat) : Int))]) [] := by
  obtain ⟨hd, hm, ho, hok⟩ := h
  have hO : OkO k (dAbout x ((xs (7 * k + 1)).toInt)) := o_about hok hm.2.2.1.2.1 _
  refine VL_run D [] 771 rfl trivial ?_
  refine VL_sldK (i := 7 * k) (j := 1) D hX rfl rfl rfl rfl rfl rfl (by omega) ?_
  refine VL_run D [] 778 rfl trivial ?_
  refine VL_callW (av := [.inr (.inr d), .inl ((xs (7 * k + 1)).toInt), .inr (.inr (d + 518))]) (st := []) D mwL_about rfl lkL_L_about (w_about hd (xin32 _) ho (by omega) k_about hO.2) rfl ⟨by omega, by omega⟩ (fun r z1 T1 I1 N1 P1 => ?_)
  obtain ⟨rfl, hz1, rfl, fI, fN, k1, ho1⟩ := P1
  have m1 : MdAt T1 I1 N1 (d + 494) x := hm.keptO hok.1.1 (fun a h1 h2 => fI a (by omega) (by omega)) (fN _ (by omega))
  refine VL_run D [] 784 rfl trivial ?_
  refine VL_sldK (i := 7 * k) (j := 1) D hX rfl rfl rfl rfl rfl rfl (by omega) ?_
  refine VL_mdV (av := [.inl ((xs (7 * k + 1)).toInt)]) (st := []) D.1 mwX10_about rfl lkL_X10_about (r_about m1 hok.1.1 (xin32 _)) m1.1.1 rfl ⟨by omega, by omega⟩ (fun r I2 P2 => ?_)
  obtain ⟨rfl, c2, o2, m2⟩ := P2
  have k2 : DkAt T1 I2 N1 d (dAbout x ((xs (7 * k + 1)).toInt)).2.2 := k1.kept (fun a h1 h2 => ⟨o2 a (by omega), rfl⟩)
  refine VL_run D [] 796 rfl trivial ?_
  refine VL_askV (av := []) (st := []) D.1 mwX10_thrown rfl lkL_X10_thrown (r_thrown m2.1) m2.1.1 rfl ⟨by omega, by omega⟩ ?_
  rw [c2]
  refine VL_run D [] 801 rfl trivial ?_
  have hkk := k_about (x := x) (w := ((xs (7 * k + 1)).toInt))
  refine VL_ieq D.1 806 rfl rfl (by omega) (by omega) (fun _ => ?_) (fun q => absurd rfl q)
  refine VL_run D [] 808 rfl trivial ?_
  refine VL_ne D.1 823 rfl rfl (by omega) (fun q => ?_) (fun q => ?_)
  · refine VL_run D [1167] 1167 rfl trivial ?_
    exact next z1 I2 N1 _ _ rfl rfl rfl rfl ⟨k2, m2, ho, hO.1⟩
  · have eo : I2 (d + 518) 0 = (dAbout x ((xs (7 * k + 1)).toInt)).2.1 := by rw [o2 _ (by omega)]; exact ho1 (by omega)
    have hv := hO.2
    refine VL_run D [] 818 rfl ⟨⟨by show xIl (I2 (d + 518) 0); rw [eo]; constructor <;> omega, by constructor <;> omega⟩, hv, ⟨1, ho, by decide, by decide⟩, trivial⟩ ?_
    rw [show ((0 : Int)).toNat = 0 from rfl, eo]
    refine VL_eq D.1 823 rfl rfl (zCmp_in _ _) (fun _ => ?_) (fun q => absurd (zCmp_0.mpr rfl) q)
    refine VL_run D [1167] 1167 rfl trivial ?_
    exact next z1 I2 N1 _ _ rfl rfl rfl rfl ⟨k2, m2, ho, hO.1⟩
set_option maxRecDepth 8000 in
theorem law_byteOf {k : Nat} (D : xDL Γ E mL_law 11 601024 7293034) (hX : xSc Γ E L xs) (hk : 7 * k + 7 ≤ L) (hk2 : k ≤ 512) (h : LW T I N d k x)
    (next : ∀ (z' : Nat) (I' : xI) (N' : xN) (x' : Dk) (lv : xL), lv 1 = some (.inr (.inr d)) → lv 2 = some (.inr (.inr (d + 494))) → lv 3 = some (.inr (.inr (d + 518))) → lv 4 = some (.inl ((7 * k : Nat) : Int)) → LW T I' N' d (k + 1) x' → VL Γ E (lw_Z (gb Γ) (ga Γ) (gs Γ)) z' T I' N' (519 + k + 1) (419245 + 6 * k + 6) 1167 lv []) :
    VL Γ E (lw_Z (gb Γ) (ga Γ) (gs Γ)) z T I N (519 + k) (419245 + 6 * k) 826 (xlv [none, some (.inr (.inr d)), some (.inr (.inr (d + 494))), some (.inr (.inr (d + 518))), some (.inl ((7 * k : Nat) : Int))]) [] := by
  obtain ⟨hd, hm, ho, hok⟩ := h
  have hO : OkO k (dByteOf x ((xs (7 * k + 1)).toInt) ((xs (7 * k + 2)).toInt)) := o_byteOf hok _ _
  refine VL_run D [] 827 rfl trivial ?_
  refine VL_sldK (i := 7 * k) (j := 1) D hX rfl rfl rfl rfl rfl rfl (by omega) ?_
  refine VL_sldK (i := 7 * k) (j := 2) D hX rfl rfl rfl rfl rfl rfl (by omega) ?_
  refine VL_run D [] 840 rfl trivial ?_
  refine VL_callW (av := [.inr (.inr d), .inl ((xs (7 * k + 1)).toInt), .inl ((xs (7 * k + 2)).toInt), .inr (.inr (d + 518))]) (st := []) D mwL_byteOf rfl lkL_L_byteOf (w_byteOf hd (xin32 _) (xin32 _) ho (by omega) k_byteOf hO.2) rfl ⟨by omega, by omega⟩ (fun r z1 T1 I1 N1 P1 => ?_)
  obtain ⟨rfl, hz1, rfl, fI, fN, k1, ho1⟩ := P1
  have m1 : MdAt T1 I1 N1 (d + 494) x := hm.keptO hok.1.1 (fun a h1 h2 => fI a (by omega) (by omega)) (fN _ (by omega))
  refine VL_run D [] 846 rfl trivial ?_
  refine VL_sldK (i := 7 * k) (j := 1) D hX rfl rfl rfl rfl rfl rfl (by omega) ?_
  refine VL_sldK (i := 7 * k) (j := 2) D hX rfl rfl rfl rfl rfl rfl (by omega) ?_
  refine VL_mdV (av := [.inl ((xs (7 * k + 1)).toInt), .inl ((xs (7 * k + 2)).toInt)]) (st := []) D.1 mwX10_byteOf rfl lkL_X10_byteOf (r_byteOf m1 hok.1.1 (xin32 _) (xin32 _)) m1.1.1 rfl ⟨by omega, by omega⟩ (fun r I2 P2 => ?_)
  obtain ⟨rfl, c2, o2, m2⟩ := P2
  have k2 : DkAt T1 I2 N1 d (dByteOf x ((xs (7 * k + 1)).toInt) ((xs (7 * k + 2)).toInt)).2.2 := k1.kept (fun a h1 h2 => ⟨o2 a (by omega), rfl⟩)
  refine VL_run D [] 864 rfl trivial ?_
  refine VL_askV (av := []) (st := []) D.1 mwX10_thrown rfl lkL_X10_thrown (r_thrown m2.1) m2.1.1 rfl ⟨by omega, by omega⟩ ?_
  rw [c2]
  refine VL_run D [] 869 rfl trivial ?_
  have hkk := k_byteOf (x := x) (p := ((xs (7 * k + 1)).toInt)) (i := ((xs (7 * k + 2)).toInt))
  refine VL_ieq D.1 874 rfl rfl (by omega) (by omega) (fun _ => ?_) (fun q => absurd rfl q)
  refine VL_run D [] 876 rfl trivial ?_
  refine VL_ne D.1 891 rfl rfl (by omega) (fun q => ?_) (fun q => ?_)
  · refine VL_run D [1167] 1167 rfl trivial ?_
    exact next z1 I2 N1 _ _ rfl rfl rfl rfl ⟨k2, m2, ho, hO.1⟩
  · have eo : I2 (d + 518) 0 = (dByteOf x ((xs (7 * k + 1)).toInt) ((xs (7 * k + 2)).toInt)).2.1 := by rw [o2 _ (by omega)]; exact ho1 (by omega)
    have hv := hO.2
    refine VL_run D [] 886 rfl ⟨⟨by show xIl (I2 (d + 518) 0); rw [eo]; constructor <;> omega, by constructor <;> omega⟩, hv, ⟨1, ho, by decide, by decide⟩, trivial⟩ ?_
    rw [show ((0 : Int)).toNat = 0 from rfl, eo]
    refine VL_eq D.1 891 rfl rfl (zCmp_in _ _) (fun _ => ?_) (fun q => absurd (zCmp_0.mpr rfl) q)
    refine VL_run D [1167] 1167 rfl trivial ?_
    exact next z1 I2 N1 _ _ rfl rfl rfl rfl ⟨k2, m2, ho, hO.1⟩
set_option maxRecDepth 8000 in
theorem law_optionAt {k : Nat} (D : xDL Γ E mL_law 11 601024 7293034) (hX : xSc Γ E L xs) (hk : 7 * k + 7 ≤ L) (hk2 : k ≤ 512) (h : LW T I N d k x)
    (next : ∀ (z' : Nat) (I' : xI) (N' : xN) (x' : Dk) (lv : xL), lv 1 = some (.inr (.inr d)) → lv 2 = some (.inr (.inr (d + 494))) → lv 3 = some (.inr (.inr (d + 518))) → lv 4 = some (.inl ((7 * k : Nat) : Int)) → LW T I' N' d (k + 1) x' → VL Γ E (lw_Z (gb Γ) (ga Γ) (gs Γ)) z' T I' N' (519 + k + 1) (419245 + 6 * k + 6) 1167 lv []) :
    VL Γ E (lw_Z (gb Γ) (ga Γ) (gs Γ)) z T I N (519 + k) (419245 + 6 * k) 894 (xlv [none, some (.inr (.inr d)), some (.inr (.inr (d + 494))), some (.inr (.inr (d + 518))), some (.inl ((7 * k : Nat) : Int))]) [] := by
  obtain ⟨hd, hm, ho, hok⟩ := h
  have hO : OkO k (dOptionAt x ((xs (7 * k + 1)).toInt) ((xs (7 * k + 2)).toInt)) := o_optionAt hok _ _
  refine VL_run D [] 895 rfl trivial ?_
  refine VL_sldK (i := 7 * k) (j := 1) D hX rfl rfl rfl rfl rfl rfl (by omega) ?_
  refine VL_sldK (i := 7 * k) (j := 2) D hX rfl rfl rfl rfl rfl rfl (by omega) ?_
  refine VL_run D [] 908 rfl trivial ?_
  refine VL_callW (av := [.inr (.inr d), .inl ((xs (7 * k + 1)).toInt), .inl ((xs (7 * k + 2)).toInt), .inr (.inr (d + 518))]) (st := []) D mwL_optionAt rfl lkL_L_optionAt (w_optionAt hd (xin32 _) (xin32 _) ho (by omega) k_optionAt hO.2) rfl ⟨by omega, by omega⟩ (fun r z1 T1 I1 N1 P1 => ?_)
  obtain ⟨rfl, hz1, rfl, fI, fN, k1, ho1⟩ := P1
  have m1 : MdAt T1 I1 N1 (d + 494) x := hm.keptO hok.1.1 (fun a h1 h2 => fI a (by omega) (by omega)) (fN _ (by omega))
  refine VL_run D [] 914 rfl trivial ?_
  refine VL_sldK (i := 7 * k) (j := 1) D hX rfl rfl rfl rfl rfl rfl (by omega) ?_
  refine VL_sldK (i := 7 * k) (j := 2) D hX rfl rfl rfl rfl rfl rfl (by omega) ?_
  refine VL_mdV (av := [.inl ((xs (7 * k + 1)).toInt), .inl ((xs (7 * k + 2)).toInt)]) (st := []) D.1 mwX10_optionAt rfl lkL_X10_optionAt (r_optionAt m1 hok.1.1 (xin32 _) (xin32 _)) m1.1.1 rfl ⟨by omega, by omega⟩ (fun r I2 P2 => ?_)
  obtain ⟨rfl, c2, o2, m2⟩ := P2
  have k2 : DkAt T1 I2 N1 d (dOptionAt x ((xs (7 * k + 1)).toInt) ((xs (7 * k + 2)).toInt)).2.2 := k1.kept (fun a h1 h2 => ⟨o2 a (by omega), rfl⟩)
  refine VL_run D [] 932 rfl trivial ?_
  refine VL_askV (av := []) (st := []) D.1 mwX10_thrown rfl lkL_X10_thrown (r_thrown m2.1) m2.1.1 rfl ⟨by omega, by omega⟩ ?_
  rw [c2]
  refine VL_run D [] 937 rfl trivial ?_
  have hkk := k_optionAt (x := x) (k := ((xs (7 * k + 1)).toInt)) (w := ((xs (7 * k + 2)).toInt))
  refine VL_ieq D.1 942 rfl rfl (by omega) (by omega) (fun _ => ?_) (fun q => absurd rfl q)
  refine VL_run D [] 944 rfl trivial ?_
  refine VL_ne D.1 959 rfl rfl (by omega) (fun q => ?_) (fun q => ?_)
  · refine VL_run D [1167] 1167 rfl trivial ?_
    exact next z1 I2 N1 _ _ rfl rfl rfl rfl ⟨k2, m2, ho, hO.1⟩
  · have eo : I2 (d + 518) 0 = (dOptionAt x ((xs (7 * k + 1)).toInt) ((xs (7 * k + 2)).toInt)).2.1 := by rw [o2 _ (by omega)]; exact ho1 (by omega)
    have hv := hO.2
    refine VL_run D [] 954 rfl ⟨⟨by show xIl (I2 (d + 518) 0); rw [eo]; constructor <;> omega, by constructor <;> omega⟩, hv, ⟨1, ho, by decide, by decide⟩, trivial⟩ ?_
    rw [show ((0 : Int)).toNat = 0 from rfl, eo]
    refine VL_eq D.1 959 rfl rfl (zCmp_in _ _) (fun _ => ?_) (fun q => absurd (zCmp_0.mpr rfl) q)
    refine VL_run D [1167] 1167 rfl trivial ?_
    exact next z1 I2 N1 _ _ rfl rfl rfl rfl ⟨k2, m2, ho, hO.1⟩
set_option maxRecDepth 8000 in
theorem law_serve {k : Nat} (D : xDL Γ E mL_law 11 601024 7293034) (hX : xSc Γ E L xs) (hk : 7 * k + 7 ≤ L) (hk2 : k ≤ 512) (h : LW T I N d k x)
    (next : ∀ (z' : Nat) (I' : xI) (N' : xN) (x' : Dk) (lv : xL), lv 1 = some (.inr (.inr d)) → lv 2 = some (.inr (.inr (d + 494))) → lv 3 = some (.inr (.inr (d + 518))) → lv 4 = some (.inl ((7 * k : Nat) : Int)) → LW T I' N' d (k + 1) x' → VL Γ E (lw_Z (gb Γ) (ga Γ) (gs Γ)) z' T I' N' (519 + k + 1) (419245 + 6 * k + 6) 1167 lv []) :
    VL Γ E (lw_Z (gb Γ) (ga Γ) (gs Γ)) z T I N (519 + k) (419245 + 6 * k) 962 (xlv [none, some (.inr (.inr d)), some (.inr (.inr (d + 494))), some (.inr (.inr (d + 518))), some (.inl ((7 * k : Nat) : Int))]) [] := by
  obtain ⟨hd, hm, ho, hok⟩ := h
  have hO : OkO k (dServe x ((xs (7 * k + 1)).toInt)) := o_serve hok hm.2.1.1.2.2 _
  refine VL_run D [] 963 rfl trivial ?_
  refine VL_sldK (i := 7 * k) (j := 1) D hX rfl rfl rfl rfl rfl rfl (by omega) ?_
  refine VL_run D [] 970 rfl trivial ?_
  refine VL_callW (av := [.inr (.inr d), .inl ((xs (7 * k + 1)).toInt), .inr (.inr (d + 518))]) (st := []) D mwL_serve rfl lkL_L_serve (w_serve hd hok.1 (xin32 _) ho (by omega) k_serve hO.2) rfl ⟨by omega, by omega⟩ (fun r z1 T1 I1 N1 P1 => ?_)
  obtain ⟨rfl, hz1, rfl, fI, fN, k1, ho1⟩ := P1
  have m1 : MdAt T1 I1 N1 (d + 494) x := hm.keptO hok.1.1 (fun a h1 h2 => fI a (by omega) (by omega)) (fN _ (by omega))
  refine VL_run D [] 976 rfl trivial ?_
  refine VL_sldK (i := 7 * k) (j := 1) D hX rfl rfl rfl rfl rfl rfl (by omega) ?_
  refine VL_mdV (av := [.inl ((xs (7 * k + 1)).toInt)]) (st := []) D.1 mwX10_serve rfl lkL_X10_serve (r_serve m1 hok.1 (xin32 _) (fun j hj => by have := hok.2.2.2 j hj; omega)) m1.1.1 rfl ⟨by omega, by omega⟩ (fun r I2 P2 => ?_)
  obtain ⟨rfl, c2, o2, m2⟩ := P2
  have k2 : DkAt T1 I2 N1 d (dServe x ((xs (7 * k + 1)).toInt)).2.2 := k1.kept (fun a h1 h2 => ⟨o2 a (by omega), rfl⟩)
  refine VL_run D [] 988 rfl trivial ?_
  refine VL_askV (av := []) (st := []) D.1 mwX10_thrown rfl lkL_X10_thrown (r_thrown m2.1) m2.1.1 rfl ⟨by omega, by omega⟩ ?_
  rw [c2]
  refine VL_run D [] 993 rfl trivial ?_
  have hkk := k_serve (x := x) (p := ((xs (7 * k + 1)).toInt))
  refine VL_ieq D.1 998 rfl rfl (by omega) (by omega) (fun _ => ?_) (fun q => absurd rfl q)
  refine VL_run D [] 1000 rfl trivial ?_
  refine VL_ne D.1 1015 rfl rfl (by omega) (fun q => ?_) (fun q => ?_)
  · refine VL_run D [1167] 1167 rfl trivial ?_
    exact next z1 I2 N1 _ _ rfl rfl rfl rfl ⟨k2, m2, ho, hO.1⟩
  · have eo : I2 (d + 518) 0 = (dServe x ((xs (7 * k + 1)).toInt)).2.1 := by rw [o2 _ (by omega)]; exact ho1 (by omega)
    have hv := hO.2
    refine VL_run D [] 1010 rfl ⟨⟨by show xIl (I2 (d + 518) 0); rw [eo]; constructor <;> omega, by constructor <;> omega⟩, hv, ⟨1, ho, by decide, by decide⟩, trivial⟩ ?_
    rw [show ((0 : Int)).toNat = 0 from rfl, eo]
    refine VL_eq D.1 1015 rfl rfl (zCmp_in _ _) (fun _ => ?_) (fun q => absurd (zCmp_0.mpr rfl) q)
    refine VL_run D [1167] 1167 rfl trivial ?_
    exact next z1 I2 N1 _ _ rfl rfl rfl rfl ⟨k2, m2, ho, hO.1⟩
set_option maxRecDepth 8000 in
theorem law_hand {k : Nat} (D : xDL Γ E mL_law 11 601024 7293034) (hX : xSc Γ E L xs) (hk : 7 * k + 7 ≤ L) (hk2 : k ≤ 512) (h : LW T I N d k x)
    (next : ∀ (z' : Nat) (I' : xI) (N' : xN) (x' : Dk) (lv : xL), lv 1 = some (.inr (.inr d)) → lv 2 = some (.inr (.inr (d + 494))) → lv 3 = some (.inr (.inr (d + 518))) → lv 4 = some (.inl ((7 * k : Nat) : Int)) → LW T I' N' d (k + 1) x' → VL Γ E (lw_Z (gb Γ) (ga Γ) (gs Γ)) z' T I' N' (519 + k + 1) (419245 + 6 * k + 6) 1167 lv []) :
    VL Γ E (lw_Z (gb Γ) (ga Γ) (gs Γ)) z T I N (519 + k) (419245 + 6 * k) 1018 (xlv [none, some (.inr (.inr d)), some (.inr (.inr (d + 494))), some (.inr (.inr (d + 518))), some (.inl ((7 * k : Nat) : Int))]) [] := by
  obtain ⟨hd, hm, ho, hok⟩ := h
  refine VL_run D [] 1019 rfl trivial ?_
  refine VL_sldK (i := 7 * k) (j := 1) D hX rfl rfl rfl rfl rfl rfl (by omega) ?_
  refine VL_askV (av := [.inl ((xs (7 * k + 1)).toInt)]) (st := []) D.1 mwX9_hand rfl lkL_X9_hand (s_dHand hd (xin32 _)) hd.1.1 rfl ⟨by omega, by omega⟩ ?_
  refine VL_run D [] 1029 rfl trivial ?_
  refine VL_sldK (i := 7 * k) (j := 1) D hX rfl rfl rfl rfl rfl rfl (by omega) ?_
  refine VL_mdV (av := [.inl ((xs (7 * k + 1)).toInt)]) (st := [.inl (bat x.1 ((xs (7 * k + 1)).toInt))]) D.1 mwX10_hand rfl lkL_X10_hand (r_hand hm hok.1.1 (xin32 _)) hm.1.1 rfl ⟨by omega, by omega⟩ (fun r I2 P2 => ?_)
  obtain ⟨rfl, c2, o2, m2⟩ := P2
  have hb : xIn (bat x.1 ((xs (7 * k + 1)).toInt)) := by have := bat_rng hm.2.1.1.2.2 ((xs (7 * k + 1)).toInt); constructor <;> omega
  refine VL_ieq D.1 1167 rfl rfl hb hb (fun _ => ?_) (fun q => absurd rfl q)
  refine VL_wide (k := 519 + k + 1) (n := 419245 + 6 * k + 6) (by omega) (by omega) ?_
  exact next z I2 N x _ rfl rfl rfl rfl ⟨hd.kept (fun a h1 h2 => ⟨o2 a (by omega), rfl⟩), m2, ho, hok.up⟩
set_option maxRecDepth 8000 in
theorem law_total {k : Nat} (D : xDL Γ E mL_law 11 601024 7293034) (hX : xSc Γ E L xs) (hk : 7 * k + 7 ≤ L) (hk2 : k ≤ 512) (h : LW T I N d k x)
    (next : ∀ (z' : Nat) (I' : xI) (N' : xN) (x' : Dk) (lv : xL), lv 1 = some (.inr (.inr d)) → lv 2 = some (.inr (.inr (d + 494))) → lv 3 = some (.inr (.inr (d + 518))) → lv 4 = some (.inl ((7 * k : Nat) : Int)) → LW T I' N' d (k + 1) x' → VL Γ E (lw_Z (gb Γ) (ga Γ) (gs Γ)) z' T I' N' (519 + k + 1) (419245 + 6 * k + 6) 1167 lv []) :
    VL Γ E (lw_Z (gb Γ) (ga Γ) (gs Γ)) z T I N (519 + k) (419245 + 6 * k) 1043 (xlv [none, some (.inr (.inr d)), some (.inr (.inr (d + 494))), some (.inr (.inr (d + 518))), some (.inl ((7 * k : Nat) : Int))]) [] := by
  obtain ⟨hd, hm, ho, hok⟩ := h
  have hO : OkO k (dTotal x ((xs (7 * k + 1)).toInt)) := o_total hok hm.2.1.1.2.1 (by omega) _
  refine VL_run D [] 1044 rfl trivial ?_
  refine VL_sldK (i := 7 * k) (j := 1) D hX rfl rfl rfl rfl rfl rfl (by omega) ?_
  refine VL_run D [] 1051 rfl trivial ?_
  refine VL_callW (av := [.inr (.inr d), .inl ((xs (7 * k + 1)).toInt), .inr (.inr (d + 518))]) (st := []) D mwL_total rfl lkL_L_total (w_total hd (xin32 _) ho (by omega) k_total hO.2) rfl ⟨by omega, by omega⟩ (fun r z1 T1 I1 N1 P1 => ?_)
  obtain ⟨rfl, hz1, rfl, fI, fN, k1, ho1⟩ := P1
  have m1 : MdAt T1 I1 N1 (d + 494) x := hm.keptO hok.1.1 (fun a h1 h2 => fI a (by omega) (by omega)) (fN _ (by omega))
  refine VL_run D [] 1057 rfl trivial ?_
  refine VL_sldK (i := 7 * k) (j := 1) D hX rfl rfl rfl rfl rfl rfl (by omega) ?_
  refine VL_mdV (av := [.inl ((xs (7 * k + 1)).toInt)]) (st := []) D.1 mwX10_total rfl lkL_X10_total (r_total m1 hok.1.1 (xin32 _)) m1.1.1 rfl ⟨by omega, by omega⟩ (fun r I2 P2 => ?_)
  obtain ⟨rfl, c2, o2, m2⟩ := P2
  have k2 : DkAt T1 I2 N1 d (dTotal x ((xs (7 * k + 1)).toInt)).2.2 := k1.kept (fun a h1 h2 => ⟨o2 a (by omega), rfl⟩)
  refine VL_run D [] 1069 rfl trivial ?_
  refine VL_askV (av := []) (st := []) D.1 mwX10_thrown rfl lkL_X10_thrown (r_thrown m2.1) m2.1.1 rfl ⟨by omega, by omega⟩ ?_
  rw [c2]
  refine VL_run D [] 1074 rfl trivial ?_
  have hkk := k_total (x := x) (w := ((xs (7 * k + 1)).toInt))
  refine VL_ieq D.1 1079 rfl rfl (by omega) (by omega) (fun _ => ?_) (fun q => absurd rfl q)
  refine VL_run D [] 1081 rfl trivial ?_
  refine VL_ne D.1 1096 rfl rfl (by omega) (fun q => ?_) (fun q => ?_)
  · refine VL_run D [1167] 1167 rfl trivial ?_
    exact next z1 I2 N1 _ _ rfl rfl rfl rfl ⟨k2, m2, ho, hO.1⟩
  · have eo : I2 (d + 518) 0 = (dTotal x ((xs (7 * k + 1)).toInt)).2.1 := by rw [o2 _ (by omega)]; exact ho1 (by omega)
    have hv := hO.2
    refine VL_run D [] 1091 rfl ⟨⟨by show xIl (I2 (d + 518) 0); rw [eo]; constructor <;> omega, by constructor <;> omega⟩, hv, ⟨1, ho, by decide, by decide⟩, trivial⟩ ?_
    rw [show ((0 : Int)).toNat = 0 from rfl, eo]
    refine VL_eq D.1 1096 rfl rfl (zCmp_in _ _) (fun _ => ?_) (fun q => absurd (zCmp_0.mpr rfl) q)
    refine VL_run D [1167] 1167 rfl trivial ?_
    exact next z1 I2 N1 _ _ rfl rfl rfl rfl ⟨k2, m2, ho, hO.1⟩
set_option maxRecDepth 8000 in
theorem law_resource {k : Nat} (D : xDL Γ E mL_law 11 601024 7293034) (hX : xSc Γ E L xs) (hk : 7 * k + 7 ≤ L) (hk2 : k ≤ 512) (h : LW T I N d k x)
    (next : ∀ (z' : Nat) (I' : xI) (N' : xN) (x' : Dk) (lv : xL), lv 1 = some (.inr (.inr d)) → lv 2 = some (.inr (.inr (d + 494))) → lv 3 = some (.inr (.inr (d + 518))) → lv 4 = some (.inl ((7 * k : Nat) : Int)) → LW T I' N' d (k + 1) x' → VL Γ E (lw_Z (gb Γ) (ga Γ) (gs Γ)) z' T I' N' (519 + k + 1) (419245 + 6 * k + 6) 1167 lv []) :
    VL Γ E (lw_Z (gb Γ) (ga Γ) (gs Γ)) z T I N (519 + k) (419245 + 6 * k) 1099 (xlv [none, some (.inr (.inr d)), some (.inr (.inr (d + 494))), some (.inr (.inr (d + 518))), some (.inl ((7 * k : Nat) : Int))]) [] := by
  obtain ⟨hd, hm, ho, hok⟩ := h
  have hO : OkO k (dResource x ((xs (7 * k + 1)).toInt) ((xs (7 * k + 2)).toInt)) := o_resource hok _ _
  refine VL_run D [] 1100 rfl trivial ?_
  refine VL_sldK (i := 7 * k) (j := 1) D hX rfl rfl rfl rfl rfl rfl (by omega) ?_
  refine VL_sldK (i := 7 * k) (j := 2) D hX rfl rfl rfl rfl rfl rfl (by omega) ?_
  refine VL_run D [] 1113 rfl trivial ?_
  refine VL_callW (av := [.inr (.inr d), .inl ((xs (7 * k + 1)).toInt), .inl ((xs (7 * k + 2)).toInt), .inr (.inr (d + 518))]) (st := []) D mwL_resource rfl lkL_L_resource (w_resource hd (xin32 _) (xin32 _) ho (by omega) k_resource hO.2) rfl ⟨by omega, by omega⟩ (fun r z1 T1 I1 N1 P1 => ?_)
  obtain ⟨rfl, hz1, rfl, fI, fN, k1, ho1⟩ := P1
  have m1 : MdAt T1 I1 N1 (d + 494) x := hm.keptO hok.1.1 (fun a h1 h2 => fI a (by omega) (by omega)) (fN _ (by omega))
  refine VL_run D [] 1119 rfl trivial ?_
  refine VL_sldK (i := 7 * k) (j := 1) D hX rfl rfl rfl rfl rfl rfl (by omega) ?_
  refine VL_sldK (i := 7 * k) (j := 2) D hX rfl rfl rfl rfl rfl rfl (by omega) ?_
  refine VL_mdV (av := [.inl ((xs (7 * k + 1)).toInt), .inl ((xs (7 * k + 2)).toInt)]) (st := []) D.1 mwX10_resource rfl lkL_X10_resource (r_resource m1 hok.1.1 hok.1.2.2.1 (xin32 _) (xin32 _)) m1.1.1 rfl ⟨by omega, by omega⟩ (fun r I2 P2 => ?_)
  obtain ⟨rfl, c2, o2, m2⟩ := P2
  have k2 : DkAt T1 I2 N1 d (dResource x ((xs (7 * k + 1)).toInt) ((xs (7 * k + 2)).toInt)).2.2 := k1.kept (fun a h1 h2 => ⟨o2 a (by omega), rfl⟩)
  refine VL_run D [] 1137 rfl trivial ?_
  refine VL_askV (av := []) (st := []) D.1 mwX10_thrown rfl lkL_X10_thrown (r_thrown m2.1) m2.1.1 rfl ⟨by omega, by omega⟩ ?_
  rw [c2]
  refine VL_run D [] 1142 rfl trivial ?_
  have hkk := k_resource (x := x) (k := ((xs (7 * k + 1)).toInt)) (w := ((xs (7 * k + 2)).toInt))
  refine VL_ieq D.1 1147 rfl rfl (by omega) (by omega) (fun _ => ?_) (fun q => absurd rfl q)
  refine VL_run D [] 1149 rfl trivial ?_
  refine VL_ne D.1 1164 rfl rfl (by omega) (fun q => ?_) (fun q => ?_)
  · refine VL_run D [1167] 1167 rfl trivial ?_
    exact next z1 I2 N1 _ _ rfl rfl rfl rfl ⟨k2, m2, ho, hO.1⟩
  · have eo : I2 (d + 518) 0 = (dResource x ((xs (7 * k + 1)).toInt) ((xs (7 * k + 2)).toInt)).2.1 := by rw [o2 _ (by omega)]; exact ho1 (by omega)
    have hv := hO.2
    refine VL_run D [] 1159 rfl ⟨⟨by show xIl (I2 (d + 518) 0); rw [eo]; constructor <;> omega, by constructor <;> omega⟩, hv, ⟨1, ho, by decide, by decide⟩, trivial⟩ ?_
    rw [show ((0 : Int)).toNat = 0 from rfl, eo]
    refine VL_eq D.1 1164 rfl rfl (zCmp_in _ _) (fun _ => ?_) (fun q => absurd (zCmp_0.mpr rfl) q)
    refine VL_run D [1167] 1167 rfl trivial ?_
    exact next z1 I2 N1 _ _ rfl rfl rfl rfl ⟨k2, m2, ho, hO.1⟩
set_option maxRecDepth 8000 in
theorem law_loop (D : xDL Γ E mL_law 11 601024 7293034) (hX : xSc Γ E L xs) (hE : (gs Γ).heap.size ≤ E.2.2) : ∀ (f k : Nat) (z : Nat) (I : xI) (N : xN) (x : Dk), 7 * k ≤ L → L < 7 * k + 7 * f → LW T I N d k x →
    VL Γ E (lw_Z (gb Γ) (ga Γ) (gs Γ)) z T I N (519 + k) (419245 + 6 * k) 23 (xlv [none, some (.inr (.inr d)), some (.inr (.inr (d + 494))), some (.inr (.inr (d + 518))), some (.inl ((7 * k : Nat) : Int))]) []
  | 0, k, z, I, N, x, h1, h2, h => by omega
  | f + 1, k, z, I, N, x, h1, h2, h => by
    have hL : L ≤ 3584 := by obtain ⟨b, -, -, -, -, g5⟩ := hX; exact g5
    refine VL_run D [] 25 rfl trivial ?_
    refine VL_slen D hX rfl rfl ?_
    refine VL_run D [] 30 rfl trivial ?_
    refine VL_igt D.1 1173 rfl rfl (by omega) (by omega) (fun c => ?_) (fun c => ?_)
    · refine VL_run D [] 1174 rfl trivial ?_
      exact law_fin D hX hE (by omega) (by omega)
    · have hk : 7 * k + 7 ≤ L := by omega
      have next : ∀ (z' : Nat) (I' : xI) (N' : xN) (x' : Dk) (lv : xL), lv 1 = some (.inr (.inr d)) → lv 2 = some (.inr (.inr (d + 494))) → lv 3 = some (.inr (.inr (d + 518))) → lv 4 = some (.inl ((7 * k : Nat) : Int)) → LW T I' N' d (k + 1) x' → VL Γ E (lw_Z (gb Γ) (ga Γ) (gs Γ)) z' T I' N' (519 + k + 1) (419245 + 6 * k + 6) 1167 lv [] := fun z' I' N' x' lv l1 l2 l3 l4 h' => by
        refine VL_lv (lv' := xlv [none, some (.inr (.inr d)), some (.inr (.inr (d + 494))), some (.inr (.inr (d + 518))), some (.inl ((7 * k : Nat) : Int))]) (fun j v hj => by match j, hj with | 0, hj => cases hj | 1, hj => exact l1.trans hj | 2, hj => exact l2.trans hj | 3, hj => exact l3.trans hj | 4, hj => exact l4.trans hj) ?_
        refine VL_run D [23] 23 rfl trivial ?_
        refine VL_loc [none, some (.inr (.inr d)), some (.inr (.inr (d + 494))), some (.inr (.inr (d + 518))), some (.inl ((7 * (k + 1) : Nat) : Int))] rfl ?_
        exact law_loop D hX hE f (k + 1) z' I' N' x' (by omega) (by omega) h'
      refine VL_sld (i := 7 * k) D hX rfl rfl rfl rfl (by omega) ?_
      refine VL_run D [] 40 rfl trivial ?_
      rw [show zAnd (xs (7 * k)).toInt 15 = (xs (7 * k)).toInt % 16 from zAndM (xs (7 * k)).toInt 4 15 (by omega) (by decide)]
      generalize hc : (xs (7 * k)).toInt % 16 = c
      have hc1 : 0 ≤ c ∧ c < 16 := by omega
      rcases (by omega : c = 0 ∨ c = 1 ∨ c = 2 ∨ c = 3 ∨ c = 4 ∨ c = 5 ∨ c = 6 ∨ c = 7 ∨ c = 8 ∨ c = 9 ∨ c = 10 ∨ c = 11 ∨ c = 12 ∨ c = 13 ∨ c = 14 ∨ c = 15) with r | r | r | r | r | r | r | r | r | r | r | r | r | r | r | r
      · subst r
        refine VL_tswIn D.1 116 rfl (by decide) (by decide) rfl rfl ?_
        exact law_begin D hX hk (by omega) h next
      · subst r
        refine VL_tswIn D.1 234 rfl (by decide) (by decide) rfl rfl ?_
        exact law_option D hX hk (by omega) h next
      · subst r
        refine VL_tswIn D.1 346 rfl (by decide) (by decide) rfl rfl ?_
        exact law_longer D hX hk (by omega) h next
      · subst r
        refine VL_tswIn D.1 446 rfl (by decide) (by decide) rfl rfl ?_
        exact law_payload D hX hk (by omega) h next
      · subst r
        refine VL_tswIn D.1 546 rfl (by decide) (by decide) rfl rfl ?_
        exact law_write D hX hk (by omega) h next
      · subst r
        refine VL_tswIn D.1 590 rfl (by decide) (by decide) rfl rfl ?_
        exact law_feed D hX hk (by omega) h next
      · subst r
        refine VL_tswIn D.1 690 rfl (by decide) (by decide) rfl rfl ?_
        exact law_end D hX hk (by omega) h next
      · subst r
        refine VL_tswIn D.1 726 rfl (by decide) (by decide) rfl rfl ?_
        exact law_read D hX hk (by omega) h next
      · subst r
        refine VL_tswIn D.1 770 rfl (by decide) (by decide) rfl rfl ?_
        exact law_about D hX hk (by omega) h next
      · subst r
        refine VL_tswIn D.1 826 rfl (by decide) (by decide) rfl rfl ?_
        exact law_byteOf D hX hk (by omega) h next
      · subst r
        refine VL_tswIn D.1 894 rfl (by decide) (by decide) rfl rfl ?_
        exact law_optionAt D hX hk (by omega) h next
      · subst r
        refine VL_tswIn D.1 962 rfl (by decide) (by decide) rfl rfl ?_
        exact law_serve D hX hk (by omega) h next
      · subst r
        refine VL_tswIn D.1 1018 rfl (by decide) (by decide) rfl rfl ?_
        exact law_hand D hX hk (by omega) h next
      · subst r
        refine VL_tswIn D.1 1043 rfl (by decide) (by decide) rfl rfl ?_
        exact law_total D hX hk (by omega) h next
      · subst r
        refine VL_tswIn D.1 1099 rfl (by decide) (by decide) rfl rfl ?_
        exact law_resource D hX hk (by omega) h next
      · subst r
        refine VL_tswOut D.1 1167 rfl (by decide) (by decide) rfl ?_
        refine VL_wide (k := 519 + k + 1) (n := 419245 + 6 * k + 6) (by omega) (by omega) ?_
        exact next z I N x _ rfl rfl rfl rfl ⟨h.1, h.2.1, h.2.2.1, h.2.2.2.up⟩
end XLoop
