/-! makings, switches, the JDK's own -/
theorem xfv_default {c k : Nat} (hc : c < 11) (hk : k < xNN c) : defaultValue (xty c k) = xfv (xfk c k) 0 0 := by
  rcases xfk_cases c k with h | h | h
  · rw [h, xfk0 h]; rfl
  · rw [h]
    have h1 := xfk1_all c (List.mem_range.mpr hc) k (List.mem_range.mpr hk) h
    cases hh : xty c k <;> rw [hh] at h1 <;> simp [FieldType.isReference] at h1 <;> rfl
  · rw [h, xfk2 h]; rfl
theorem xR.lt {E : xE} {z : Nat} {T : xY} {I : xI} {N : xN} {H : Heap} (h : xR E z T I N H) {a : Nat} (ha : T a ≠ none) : a < z := by
  rw [← h.1]
  cases hT : T a with
  | none => exact absurd hT ha
  | some t =>
    cases t with
    | inl q =>
      obtain ⟨k, n⟩ := q
      exact (Array.getElem?_eq_some_iff.mp (h.arr hT).1).1
    | inr c =>
      obtain ⟨-, ⟨cell, q1, -⟩, -⟩ := h.obj hT
      exact (Array.getElem?_eq_some_iff.mp q1).1
theorem xR.grow {E : xE} {z : Nat} {T : xY} {I : xI} {N : xN} {H H' : Heap} (h : xR E z T I N H) (hs : H'.size = z + 1) (ho : ∀ q : Nat, q < z → H'[q]? = H[q]?) {t : xT} {i : Nat → Int} {n : Nat → Nat} (hz : xAt E (va_up T z (some t)) (va_up I z i) (va_up N z n) H' z) : xR E (z + 1) (va_up T z (some t)) (va_up I z i) (va_up N z n) H' := by
  refine ⟨hs, by have := h.2.1; omega, h.2.2.1, fun a => ?_⟩
  by_cases ha : a = z
  · rw [ha]; exact hz
  · have h1 := h.2.2.2 a
    have e1 : va_up T z (some t) a = T a := by unfold va_up; rw [if_neg ha]
    have e2 : va_up I z i a = I a := by unfold va_up; rw [if_neg ha]
    have e3 : va_up N z n a = N a := by unfold va_up; rw [if_neg ha]
    cases hT : T a with
    | none =>
      unfold xAt
      rw [e1, hT]
      trivial
    | some t' =>
      have hl := h.lt (a := a) (by rw [hT]; exact fun h => by cases h)
      have h2 := h1.kept (H' := H') (I' := va_up I z i) (N' := va_up N z n) (ho a hl) e2 e3
      unfold xAt at h2 ⊢
      rw [e1]
      exact h2
section XMakes
variable {Γ : xG} {E : xE} {M M' : xM} {T : xY} {I : xI} {N : xN} {z : Nat} {ce sl pc lev lev' mc ms mc' ms' n idx : Nat} {Q : State → Prop} {lv : xL} {st : List xV} {post post' : xPo} {av : List xV}
theorem V_obj (D : xD Γ E M lev mc ms) (hf : xfe M pc = some (.invokespecial idx, 3)) (hlk : Cond.methodLink (xRn M.2.2.2.2.1) idx objectInit ∈ lw_tbl) {a : Nat} (ha : 0 < a) (hr : ((1).ble lev && (xwd st).ble 8) = true) (k : V Γ E Q z T I N ce sl (pc + 3) lv st) : V Γ E Q z T I N ce sl pc lv (.inr (.inr a) :: st) := by
  intro H locs ls hR hSS hl
  simp only [Bool.and_eq_true] at hr
  have hr1 : 1 ≤ lev := Nat.le_of_ble_eq_true hr.1
  have hr3 : xwd st ≤ 8 := Nat.le_of_ble_eq_true hr.2
  obtain ⟨⟨hx, hb, -, hml, hown, -⟩, -, ho, hK, hW, hX, hz⟩ := id D.1
  exact W.objInit (a := a) (rest := st.map xv) (g := F0 (gm Γ) pc ls ((.inr (.inr a) :: st : List xV).map xv)) hx hb hown (hW.use hlk rfl) (hW.use xobj_in.1 rfl) (hW.use xobj_in.2 rfl) rfl hl.1 (by show xr a :: _ = _; rw [xr_pos ha]) (D.1.dec hf) (by rw [D.2]; exact hr1) (by rw [D.2, xwd_sum]; show 2 * 0 + _ + 12 ≤ 32 * lev; omega) (k H locs ls hR hSS hl)
theorem V_new (D : xD Γ E M lev mc ms) (c : Nat) (hf : xfe M pc = some (.new idx, 3)) (hlk : Cond.classLink (xRn M.2.2.2.2.1) idx (xRn c) ∈ lw_tbl) (hc : c < 11) (hm : ce + 1 ≤ mc ∧ sl + xNN c ≤ ms)
    (k : V Γ E Q (z + 1) (va_up T z (some (.inr c))) (va_up I z (fun _ => 0)) (va_up N z (fun _ => 0)) (ce + 1) (sl + xNN c) (pc + 3) lv (.inr (.inr z) :: st)) : V Γ E Q z T I N ce sl pc lv st := by
  intro H locs ls hR hSS hl
  obtain ⟨⟨hx, hb, -, hml, hown, -⟩, -, ho, hK, hW, hX, hz⟩ := id D.1
  have hKn := hK.cls hc
  have hin := xnew_in c (List.mem_range.mpr hc)
  have hz1 : 0 < z := Nat.lt_of_lt_of_le hR.2.2.1 hR.2.1
  refine W.newcK hx hb hown (hW.use hlk rfl) (hW.use hin.1 rfl) (hW.use hin.2 rfl) (g := F0 (gm Γ) pc ls (st.map xv)) rfl (D.1.dec hf) (by rw [D.2]; exact hm.1) (by rw [D.2]; exact hm.2) hKn.2.1 hR.1 fun H1 kC hkC e1 z1 o1 => ?_
  have h2 := k H1 locs ls (hR.grow z1 o1 ?_) ⟨Nat.le_trans hSS.1 (by rw [z1, hR.1]; omega), fun q h1 h2 => (o1 q (by rw [← hR.1]; exact Nat.lt_of_lt_of_le h1 hSS.1)).trans (hSS.2.1 q h1 h2), hSS.2.2⟩ hl
  · have e : xv (.inr (.inr z)) = .ref z := xr_pos hz1
    rw [List.map_cons, e] at h2
    exact h2
  · unfold xAt
    have e1' : va_up T z (some (.inr c)) z = some (.inr c) := by unfold va_up; rw [if_pos rfl]
    rw [e1']
    refine ⟨hc, (u_born (args := ga Γ) (xty c) (hW.us hc) (fun w h => h) hKn hkC e1 (xty_ok hc)).to fun j hj => ?_, hR.2.1⟩
    have e2 : va_up I z (fun _ => 0) z j = 0 := by unfold va_up; rw [if_pos rfl]
    have e3 : va_up N z (fun _ => 0) z j = 0 := by unfold va_up; rw [if_pos rfl]
    rw [e2, e3]
    exact xfv_default hc hj
theorem V_newa (D : xD Γ E M lev mc ms) (kd : Nat) {ty : ArrayType} {x : Int} (hf : xfe M pc = some (.newarray ty, 2)) (hk : kd < 3 ∧ newarray.typeOf ty = xat kd) (hx0 : 0 ≤ x ∧ x ≤ 1000000) (hm : ce + 1 ≤ mc ∧ sl + x.toNat ≤ ms)
    (k : V Γ E Q (z + 1) (va_up T z (some (.inl (kd, x.toNat)))) (va_up I z (fun _ => 0)) (va_up N z (fun _ => 0)) (ce + 1) (sl + x.toNat) (pc + 2) lv (.inr (.inr z) :: st)) : V Γ E Q z T I N ce sl pc lv (.inl x :: st) := by
  intro H locs ls hR hSS hl
  obtain ⟨⟨hx, hb, -, hml, hown, -⟩, -, ho, hK, hW, hX, hz⟩ := id D.1
  have hz1 : 0 < z := Nat.lt_of_lt_of_le hR.2.2.1 hR.2.1
  obtain ⟨i1, i2, i3⟩ := xidx (i := x) (n := 1000001) hx0.1 (by omega) (by omega)
  have hin : Cond.arrayClass (newarray.typeOf ty) ∈ lw_tbl := by
    rw [hk.2]
    refine xarc_in _ ?_
    rcases (by omega : kd = 0 ∨ kd = 1 ∨ kd = 2) with h | h | h <;> subst h <;> decide
  have hcb : x.toNat * componentBytes (newarray.typeOf ty) ≤ 536870912 := by
    have h9 : x.toNat ≤ 1000000 := by omega
    rw [hk.2]
    rcases (by omega : kd = 0 ∨ kd = 1 ∨ kd = 2) with h | h | h <;> subst h <;> simp only [xat, componentBytes] <;> omega
  refine va_newaK hx hb (hW.use hin rfl) (g := F0 (gm Γ) pc ls ((.inl x :: st : List xV).map xv)) rfl (D.1.dec hf) (n := Int32.ofInt x) (N := x.toNat) (rest := st.map xv) rfl (fun h => i3 (Or.inl h)) i1 hcb (by rw [D.2]; exact hm.1) (by rw [D.2]; exact hm.2) hR.1 fun H1 cA e1 z1 o1 hA hfc => ?_
  have hcA : cA = E.2.1 kd := by
    have h9 := (hK.arr (k := kd) (by omega)).2
    rw [hk.2] at hfc
    rcases (by omega : kd = 0 ∨ kd = 1 ∨ kd = 2) with h | h | h <;> subst h <;> exact Option.some.inj (hfc.symm.trans h9)
  subst hcA
  have h2 := k H1 locs ls (hR.grow z1 o1 ?_) ⟨Nat.le_trans hSS.1 (by rw [z1, hR.1]; omega), fun q h1 h2 => (o1 q (by rw [← hR.1]; exact Nat.lt_of_lt_of_le h1 hSS.1)).trans (hSS.2.1 q h1 h2), hSS.2.2⟩ hl
  · have e : xv (.inr (.inr z)) = .ref z := xr_pos hz1
    rw [List.map_cons, e] at h2
    exact h2
  · unfold xAt
    have e1' : va_up T z (some (.inl (kd, x.toNat))) z = some (.inl (kd, x.toNat)) := by unfold va_up; rw [if_pos rfl]
    rw [e1']
    refine ⟨?_, by omega, hR.2.1, by omega⟩
    rw [e1, hk.2]
    congr 2
    funext j
    have e2 : va_up I z (fun _ => 0) z j = 0 := by unfold va_up; rw [if_pos rfl]
    have e3 : va_up N z (fun _ => 0) z j = 0 := by unfold va_up; rw [if_pos rfl]
    rw [e2, e3]
    rcases (by omega : kd = 0 ∨ kd = 1 ∨ kd = 2) with h | h | h <;> subst h <;> rfl
theorem V_newq (D : xD Γ E M lev mc ms) (kd : Nat) {x : Int} (hf : xfe M pc = some (.anewarray idx, 3)) (hlk : Cond.classLink (xRn M.2.2.2.2.1) idx (xRn (xec kd)) ∈ lw_tbl) (hk : 3 ≤ kd ∧ kd < 7) (hx0 : 0 ≤ x ∧ x ≤ 1000000) (hm : ce + 1 ≤ mc ∧ sl + x.toNat ≤ ms)
    (k : V Γ E Q (z + 1) (va_up T z (some (.inl (kd, x.toNat)))) (va_up I z (fun _ => 0)) (va_up N z (fun _ => 0)) (ce + 1) (sl + x.toNat) (pc + 3) lv (.inr (.inr z) :: st)) : V Γ E Q z T I N ce sl pc lv (.inl x :: st) := by
  intro H locs ls hR hSS hl
  obtain ⟨⟨hx, hb, -, hml, hown, -⟩, -, ho, hK, hW, hX, hz⟩ := id D.1
  have hz1 : 0 < z := Nat.lt_of_lt_of_le hR.2.2.1 hR.2.1
  obtain ⟨i1, i2, i3⟩ := xidx (i := x) (n := 1000001) hx0.1 (by omega) (by omega)
  have hty : xat kd = .object (xRn (xec kd)) := by
    rcases (by omega : kd = 3 ∨ kd = 4 ∨ kd = 5 ∨ kd = 6) with h | h | h | h <;> subst h <;> rfl
  have hin : Cond.arrayOver (.object (xRn (xec kd))) ∈ lw_tbl := by
    refine xaro_in _ ?_
    rcases (by omega : kd = 3 ∨ kd = 4 ∨ kd = 5 ∨ kd = 6) with h | h | h | h <;> subst h <;> decide
  have hcb : (Int32.ofInt x).toNatClampNeg * 4 ≤ 536870912 := by rw [i1]; omega
  refine W.anew hx hb hown (hW.use hlk rfl) (hW.use hin rfl) (g := F0 (gm Γ) pc ls ((.inl x :: st : List xV).map xv)) rfl (D.1.dec hf) (n := Int32.ofInt x) (rest := st.map xv) rfl (fun h => i3 (Or.inl h)) hcb (by rw [D.2]; exact hm.1) (by rw [D.2, i1]; exact hm.2) fun cA kA comp f1 f2 f3 f4 => ?_
  have hcA : cA = E.2.1 kd := by
    have h9 := (hK.arr (k := kd) (by omega)).2
    rw [hty] at h9
    obtain ⟨-, -, -, -, -, k4⟩ := h9
    exact Option.some.inj (f1.symm.trans k4)
  subst hcA
  rw [i1]
  generalize hH1 : H.push ({ cls := E.2.1 kd, slots := Array.replicate x.toNat .null, vm := .none } : Cell) = H1
  have z1 : H1.size = z + 1 := by rw [← hH1, Array.size_push, hR.1]
  have e1 : H1[z]? = some (arrV (E.2.1 kd) x.toNat (fun _ => .null)) := by rw [← hH1, ← hR.1, Array.getElem?_push_size, ← arrV_new]
  have o1 : ∀ q : Nat, q < z → H1[q]? = H[q]? := fun q hq => by rw [← hH1, Array.getElem?_push, if_neg (by rw [hR.1]; exact Nat.ne_of_lt hq)]
  have h2 := k H1 locs ls (hR.grow z1 o1 ?_) ⟨Nat.le_trans hSS.1 (by rw [z1, hR.1]; omega), fun q h1 h2 => (o1 q (by rw [← hR.1]; exact Nat.lt_of_lt_of_le h1 hSS.1)).trans (hSS.2.1 q h1 h2), hSS.2.2⟩ hl
  · have e : xv (.inr (.inr z)) = .ref z := xr_pos hz1
    rw [List.map_cons, e, ← hR.1] at h2
    exact h2
  · unfold xAt
    have e1' : va_up T z (some (.inl (kd, x.toNat))) z = some (.inl (kd, x.toNat)) := by unfold va_up; rw [if_pos rfl]
    rw [e1']
    refine ⟨?_, by omega, hR.2.1, by omega⟩
    rw [e1]
    congr 2
    funext j
    have e2 : va_up I z (fun _ => 0) z j = 0 := by unfold va_up; rw [if_pos rfl]
    have e3 : va_up N z (fun _ => 0) z j = 0 := by unfold va_up; rw [if_pos rfl]
    rw [e2, e3]
    unfold xav
    rw [if_neg (by omega), if_neg (by omega)]
    rfl
/-- a final field, in the constructor of its class -/
theorem V_putF (D : xD Γ E M lev mc ms) {c f : Nat} {a w : Nat} (hf : xfe M pc = some (.putfield idx, 3)) (hfr : (xfr M.2.2.2.2.1).lookup idx = some (c, f, false)) (hfin : (xTT c f).2.2.2 = true) (hown2 : (xTT c f).1 = xRn M.2.2.2.2.1) (hini : M.1.name = "<init>") (hk1 : xfk c f = 1) (hT : T a = some (.inr c))
    (k : V Γ E Q z T I (xup N a f w) ce sl (pc + 3) lv st) : V Γ E Q z T I N ce sl pc lv (.inr (.inr w) :: .inr (.inr a) :: st) := by
  intro H locs ls hR hS0 hl
  obtain ⟨⟨hx, hb, hr, hml, hown, hlocks, hname⟩, -, ho, hK, hW, hX, hz⟩ := id D.1
  obtain ⟨hw, hc, hfN⟩ := x_fld D.1 hfr
  obtain ⟨-, ⟨cell, q1, q2, q3, q4⟩, hA, hpos⟩ := hR.obj hT
  have hap := va_apart (own := xRn M.2.2.2.2.1) (args := ga Γ) (hW.us hc) (fun w h => h) (xty c) (xty_ok hc) (xnm_ok hc) hK (xcl_at hc)
  obtain ⟨hS, hfc, kC, hkC, hkind⟩ := hK.cls hc
  obtain ⟨cf, kf, fi, fd, hi, hsl⟩ := hS f hfN
  have hlay := hW.us (A := ga Γ) hc _ (u_in_lay hfN)
  unfold u_lay at hlay
  rw [if_pos hfin] at hlay
  have hst := (u_facts hfc hkC (Or.inr hlay) hi).1
  have hcf : (gm Γ).cls = cf := by
    obtain ⟨_, _, c', _, _, _, -, -, hf', -, -, -, hown2', -⟩ := Cond.laysFinal_spec hlay
    have e1 : c' = cf := by have := hi.symm.trans hf'; simp at this; exact this.1.symm
    rw [hown2] at hown2'
    rw [← e1]; exact Option.some.inj (hown.symm.trans hown2')
  have hfit := xfit_of (z := 0) (a := w) hc hfN (fun h => by rw [hk1] at h; cases h)
  rw [hk1] at hfit
  have h6 := u_fits hfc hkC hkind (Or.inr hlay) hi (xty_ok hc f hfN) hfit.1 hfit.2
  show W _ _ _ _ _ _ _ _ _ _ _ _ _ _ _ (F0 _ _ _ (xr w :: xr a :: st.map xv))
  rw [xr_pos hpos]
  refine W.putFinK hx hb hown hw hi hst hcf (by rw [hname]; exact hini) (by rw [q2]; exact h6) q1 q3 (by rw [hsl]; exact k2_hasslot (q4 f hfN)) rfl rfl (D.1.dec hf) fun H' e1 e2 e3 => ?_
  refine k H' _ ls (hR.put e2 e3 (fun _ _ => rfl) (fun q hq => xup_ne hq) ?_) (hS0.put e2 e3 hA) hl
  unfold xAt
  rw [hT]
  refine ⟨hc, t_OB.to (V := updV (fun k => xfv (xfk c k) (I a k) (N a k)) f (xr w)) ⟨_, e1, q2, q3, ?_⟩ (fun j _ => ?_), hA⟩
  · rw [hsl]; exact t_set q4 hap hfN _
  · rw [xup_at]
    unfold updV va_up
    by_cases hj : j = f
    · subst hj
      rw [if_pos rfl, if_pos rfl, hk1]; rfl
    · rw [if_neg hj, if_neg hj]
theorem V_tswIn (D : xD Γ E M lev mc ms) (tgt : Nat) {dflt lo hi off x : Int} {offs : Array Int} {len : Nat} (h : xfe M pc = some (.tableswitch dflt lo hi offs, len)) (hx : xIn x) (h1 : lo ≤ x ∧ x ≤ hi) (ho : offs[(x - lo).toNat]? = some off) (ht : (pc : Int) + off = (tgt : Int)) (k : V Γ E Q z T I N ce sl tgt lv st) : V Γ E Q z T I N ce sl pc lv (.inl x :: st) := by
  intro H locs ls hR hS hl
  exact lv_tableIn D.1.1.1 D.1.1.2.1 (D.1.dec h) (by rw [x32 hx]; omega) (by rw [x32 hx]; omega) (by rw [x32 hx]; exact ho) ht (k H locs ls hR hS hl)
theorem V_tswOut (D : xD Γ E M lev mc ms) (tgt : Nat) {dflt lo hi x : Int} {offs : Array Int} {len : Nat} (h : xfe M pc = some (.tableswitch dflt lo hi offs, len)) (hx : xIn x) (h1 : x < lo ∨ hi < x) (ht : (pc : Int) + dflt = (tgt : Int)) (k : V Γ E Q z T I N ce sl tgt lv st) : V Γ E Q z T I N ce sl pc lv (.inl x :: st) := by
  intro H locs ls hR hS hl
  exact lv_tableOut D.1.1.1 D.1.1.2.1 (D.1.dec h) (by rw [x32 hx]; exact h1) ht (k H locs ls hR hS hl)
theorem V_lsw (D : xD Γ E M lev mc ms) (tgt : Nat) {dflt off x : Int} {ps : Array (Int × Int)} {len : Nat} (h : xfe M pc = some (.lookupswitch dflt ps, len)) (hp : (ps.toList.zip (ps.toList.drop 1)).all (fun (a, next) => a.1 < next.1) = true) (hx : xIn x) (ho : Op.lookupswitch.offset ps.toList dflt x = off) (ht : (pc : Int) + off = (tgt : Int)) (k : V Γ E Q z T I N ce sl tgt lv st) : V Γ E Q z T I N ce sl pc lv (.inl x :: st) := by
  intro H locs ls hR hS hl
  exact lv_lookup D.1.1.1 D.1.1.2.1 (D.1.dec h) hp (by rw [x32 hx]; exact ho) ht (k H locs ls hR hS hl)
theorem V_min (D : xD Γ E M lev mc ms) {x y : Int} (hf : xfe M pc = some (.invokestatic idx, 3)) (hlk : Cond.methodLink (xRn M.2.2.2.2.1) idx Lib.Math.min.name ∈ lw_tbl) (hr : ((1).ble lev && (xwd st).ble 8) = true) (hxy : xIn x ∧ xIn y) (hc : ce ≤ mc ∧ sl ≤ ms) (k : V Γ E Q z T I N ce sl (pc + 3) lv (.inl (if y < x then y else x) :: st)) : V Γ E Q z T I N ce sl pc lv (.inl y :: .inl x :: st) := by
  intro H locs ls hR hSS hl
  simp only [Bool.and_eq_true] at hr
  have hr1 : 1 ≤ lev := Nat.le_of_ble_eq_true hr.1
  have hr3 : xwd st ≤ 8 := Nat.le_of_ble_eq_true hr.2
  obtain ⟨⟨hx, hb, -, hml, hown, -⟩, -, ho, hK, hW, hX, hz⟩ := id D.1
  have e : (Int32.ofInt y < Int32.ofInt x) ↔ y < x := by rw [Int32.lt_iff_toInt_lt, x32 hxy.1, x32 hxy.2]
  refine va_mmin hx hb hl.1.symm hown (hW.use hlk rfl) (hW.use xmin_in.1 rfl) (hW.use xmin_in.2.1 rfl) (hW.use xmin_in.2.2 rfl) (by rw [D.2]; exact hr1) (by rw [D.2, xwd_sum]; show _ + 13 ≤ 32 * lev; omega) (by rw [D.2]; exact hc.1) (by rw [D.2]; exact hc.2) (D.1.dec hf) ?_
  have h2 := k H locs ls hR hSS hl
  by_cases h : y < x
  · rw [if_pos (e.mpr h)]; rw [if_pos h] at h2; exact h2
  · rw [if_neg (fun q => h (e.mp q))]; rw [if_neg h] at h2; exact h2
end XMakes
