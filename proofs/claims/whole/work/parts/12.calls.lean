/-! calls and makings -/
theorem xwd_sum : ∀ st : List xV, ((st.map xv).map fun v => v.category).sum = xwd st
  | [] => rfl
  | .inl x :: r => by
    have h := xwd_sum r
    simp only [List.map_cons, List.sum_cons, xwd, h]
    show 1 + _ = _
    omega
  | .inr (.inl x) :: r => by
    have h := xwd_sum r
    simp only [List.map_cons, List.sum_cons, xwd, h]
    show 2 + _ = _
    omega
  | .inr (.inr x) :: r => by
    have h := xwd_sum r
    simp only [List.map_cons, List.sum_cons, xwd, h]
    show (xr x).category + _ = _
    rw [xr_cat]
    omega
section XCalls
variable {Γ : xG} {E : xE} {M M' : xM} {T : xY} {I : xI} {N : xN} {z : Nat} {ce sl pc lev lev' mc ms mc' ms' n idx : Nat} {Q : State → Prop} {lv : xL} {st : List xV} {post post' : xPo} {av : List xV}
theorem x_pre (C : xC Γ E M) {H : Heap} {locs : List Loc} (hR : xR E z T I N H) (hS : va_S (fun q => E.2.2 ≤ q) (gs Γ).heap H locs) {avv : List Value} : ∀ U : State, U.heap = H → (gs Γ).WarmedH U.vm → va_Pc avv (xPre E z T I N) avv.toArray U := by
  obtain ⟨-, -, ho, hK, hW, hX, hz⟩ := id C
  intro U hU hWm
  refine ⟨rfl, by rw [hU]; exact hR, xK.moved hWm.alike hK, xW.warm hW hWm, xX.moved hWm.alike (fun a h1 h2 => ?_) hX⟩
  rw [hU]
  exact hS.2.1 a h1 h2
theorem x_cb (D : xD Γ E M lev mc ms) (hb : xMb M' n) (hl : (Cond.methodLink (xRn M.2.2.2.2.1) idx M'.1).before (ga Γ) (gs Γ) = true) (hlev : lev' < lev) :
    CallB (gR Γ) (gs Γ) (ga Γ) (xRn M.2.2.2.2.1) idx M'.1 M'.2.1 M'.2.2.1 M'.2.2.2.1 (xws M') (xRm lev' mc' ms') mc' ms' n := by
  obtain ⟨-, -, ho, hK, hW, hX, hz⟩ := D.1
  have hR := D.2
  refine ⟨rfl, rfl, ?_, ?_, ?_, List.mem_singleton.mpr rfl, hW.use hb.1 rfl, hW.use hb.2.1 rfl, hb.2.2.1, fun sig h => ?_, hl⟩
  · rw [hR]; exact hlev
  · rw [hR]; show 8 + (M'.2.2.1 + 11) + 32 * lev' ≤ 32 * lev
    have := hb.2.2.2.2.1
    omega
  · intro w hw a' U hWm
    rw [List.mem_singleton.mp hw]
    exact hW.at hWm hb.1 rfl a'
  · have h2 := hb.2.2.2.1
    rw [h] at h2
    exact (Option.some.inj h2).symm
theorem x_after {H : Heap} {locs L : List Loc} {ls : Array Slot} {p : Program} {T9 : State} {r : Option xV} (hk : ∀ r z' T' I' N', post' r z' T' I' N' → V Γ E Q z' T' I' N' (ce + mc') (sl + ms') (pc + 3) lv (r.toList ++ st))
    (hS : va_S (fun q => E.2.2 ≤ q) (gs Γ).heap H locs) (hl : xLs ls (gc Γ).maxLocals lv) {v : Option Value} {st₀ t T' : State} (h0 : st₀.heap = H) (hL : ∀ q ∈ L, E.2.2 ≤ q.base) (e1 : T'.heap = t.heap) (hq : xPost E post' (ga Γ) st₀ (.returned v) t) (X' : Stand (gp Γ) (gl Γ) (ge Γ) (gR Γ) (gs Γ) (gm Γ) (ga Γ) (gb Γ) (gt Γ) (gc Γ) T' (locs ++ L) (ce + mc') (sl + ms')) :
    ∃ t2, Steps (gp Γ).tables (ge Γ) (gb Γ) (T'.setTop (F0 (gm Γ) (pc + 3) ls (v.toList ++ st.map xv))) t2 ∧ Q t2 := by
  obtain ⟨⟨r, z', T1, I1, N1, ev, hp, hR'⟩, hF⟩ := hq
  have hv : v = r.map xv := by injection ev
  subst hv
  obtain ⟨hz, hkp⟩ := hF
  rw [h0] at hz hkp
  have h2 := hk r z' T1 I1 N1 hp T'.heap (locs ++ L) ls (by rw [e1]; exact hR')
    ⟨Nat.le_trans hS.1 (by rw [e1]; exact hz), fun q g1 g2 => by rw [e1, hkp q (Nat.lt_of_lt_of_le g1 hS.1) g2]; exact hS.2.1 q g1 g2, fun q hq => by
      rcases List.mem_append.mp hq with h | h
      · exact hS.2.2 q h
      · exact hL q h⟩ hl T' rfl X'
  have e2 : (r.toList ++ st).map xv = (r.map xv).toList ++ st.map xv := by cases r <;> simp
  rw [e2] at h2
  exact h2
theorem V_callV (D : xD Γ E M lev mc ms) (hm : xMv M' n) (hf : xfe M pc = some (.invokevirtual idx, 3)) (hlk : Cond.methodLink (xRn M.2.2.2.2.1) idx M'.1 ∈ lw_tbl) {a : Nat} (hS : Spec M' lev' (.inr (.inr a) :: av) z T I N mc' ms' post') (hT : T a = some (.inr M'.2.2.2.2.1))
    (hr : (Nat.blt lev' lev && av.length.beq n && (xwd st).ble 8) = true) (hc : ce + mc' ≤ mc ∧ sl + ms' ≤ ms) (k : ∀ r z' T' I' N', post' r z' T' I' N' → V Γ E Q z' T' I' N' (ce + mc') (sl + ms') (pc + 3) lv (r.toList ++ st)) : V Γ E Q z T I N ce sl pc lv (av.reverse ++ .inr (.inr a) :: st) := by
  intro H locs ls hR hSS hl
  simp only [Bool.and_eq_true] at hr
  obtain ⟨⟨hr1, hr2⟩, hr3⟩ := hr
  have hr1 : lev' < lev := Nat.le_of_ble_eq_true hr1
  have hr2 : av.length = n := Nat.eq_of_beq_eq_true hr2
  have hr3 : xwd st ≤ 8 := Nat.le_of_ble_eq_true hr3
  obtain ⟨⟨hx, hb, -, hml, hown, -⟩, -, ho, hK, hW, hX, hz⟩ := id D.1
  obtain ⟨-, ⟨cell, q1, q2, q3, -⟩, -, hpos⟩ := hR.obj hT
  have hc11 := hm.2.2.2
  have hp : PreV (gs Γ) H (xRn M'.2.2.2.2.1) a (va_Pc ((.inr (.inr a) :: av : List xV).map xv) (xPre E z T I N)) (av.map xv) := by
    refine ⟨xPre.blind, ⟨cell, q1, by rw [q3]; rfl, by rw [q2]; exact (hK.cls hc11).2.1⟩, ?_⟩
    have h1 := x_pre D.1 hR hSS (avv := (.inr (.inr a) :: av : List xV).map xv)
    have e : (Value.ref a :: av.map xv) = (.inr (.inr a) :: av : List xV).map xv := by show _ = xr a :: _; rw [xr_pos hpos]
    rw [e]
    exact h1
  have cw : CallW (gR Γ) (gs Γ) (ga Γ) (xRn M.2.2.2.2.1) (xRn M'.2.2.2.2.1) idx M'.1 M'.2.1 M'.2.2.1 M'.2.2.2.1 (xws M') (xRm lev' mc' ms') mc' ms' n :=
    ⟨x_cb D hm.1 (hW.use hlk rfl) hr1, hW.use hm.2.1 rfl, by rw [hm.1.2.2.2.2.2.1]; exact hW.use hm.2.2.1 rfl⟩
  have run := va_runV (e := ge Γ) (below := gb Γ) (meth := gt Γ) (locs := locs) (cells := ce) (slots := sl) (g := F0 (gm Γ) pc ls ((av.reverse ++ .inr (.inr a) :: st).map xv)) (rest := st.map xv) (Ts := []) ⟨hx, hb, hml, hown, fun _ h => nomatch h⟩ (hS (gl Γ) E) cw hp rfl (by rw [List.length_map]; exact hr2) (hl.1.trans hml) (by rw [List.map_append, List.map_reverse]; show _ ++ xr a :: _ = _; rw [xr_pos hpos]) (lv_room (by rw [xwd_sum]; exact hr3)) (D.1.dec hf) (by rw [D.2]; exact hc)
  intro T9 hT9 X
  obtain ⟨v, st₀, t, T', L, h0, X', hL, e1, e2, hq, st9⟩ := run T9 hT9 X
  obtain ⟨t2, a1, b1⟩ := x_after (p := gp Γ) (T9 := T9) (r := none) k hSS hl h0 hL e1 hq X'
  exact ⟨t2, st9 t2 a1, b1⟩
theorem V_callS (D : xD Γ E M lev mc ms) (hm : xMs M' n) (hf : xfe M pc = some (.invokestatic idx, 3)) (hlk : Cond.methodLink (xRn M.2.2.2.2.1) idx M'.1 ∈ lw_tbl) (hS : Spec M' lev' av z T I N mc' ms' post')
    (hr : (Nat.blt lev' lev && av.length.beq n && (xwd st).ble 8) = true) (hc : ce + mc' ≤ mc ∧ sl + ms' ≤ ms) (k : ∀ r z' T' I' N', post' r z' T' I' N' → V Γ E Q z' T' I' N' (ce + mc') (sl + ms') (pc + 3) lv (r.toList ++ st)) : V Γ E Q z T I N ce sl pc lv (av.reverse ++ st) := by
  intro H locs ls hR hSS hl
  simp only [Bool.and_eq_true] at hr
  obtain ⟨⟨hr1, hr2⟩, hr3⟩ := hr
  have hr1 : lev' < lev := Nat.le_of_ble_eq_true hr1
  have hr2 : av.length = n := Nat.eq_of_beq_eq_true hr2
  have hr3 : xwd st ≤ 8 := Nat.le_of_ble_eq_true hr3
  obtain ⟨⟨hx, hb, -, hml, hown, -⟩, -, ho, hK, hW, hX, hz⟩ := id D.1
  have hp : PreS (gs Γ) H (va_Pc (av.map xv) (xPre E z T I N)) (av.map xv) := ⟨xPre.blind, x_pre D.1 hR hSS⟩
  have run := va_runS (e := ge Γ) (below := gb Γ) (meth := gt Γ) (locs := locs) (cells := ce) (slots := sl) (g := F0 (gm Γ) pc ls ((av.reverse ++ st).map xv)) (rest := st.map xv) (Ts := []) ⟨hx, hb, hml, hown, fun _ h => nomatch h⟩ (hS (gl Γ) E) ⟨x_cb (mc' := mc') (ms' := ms') D hm.1 (hW.use hlk rfl) hr1, hW.use hm.2 rfl⟩ hp rfl (by rw [List.length_map]; exact hr2) (hl.1.trans hml) (by rw [List.map_append, List.map_reverse]) (lv_room (by rw [xwd_sum]; exact hr3)) (D.1.dec hf) (by rw [D.2]; exact hc)
  intro T9 hT9 X
  obtain ⟨v, st₀, t, T', L, h0, X', hL, e1, e2, hq, st9⟩ := run T9 hT9 X
  obtain ⟨t2, a1, b1⟩ := x_after (p := gp Γ) (T9 := T9) (r := none) k hSS hl h0 hL e1 hq X'
  exact ⟨t2, st9 t2 a1, b1⟩
theorem V_callI (D : xD Γ E M lev mc ms) (hm : xMi M' n) (hf : xfe M pc = some (.invokespecial idx, 3)) (hlk : Cond.methodLink (xRn M.2.2.2.2.1) idx M'.1 ∈ lw_tbl) {a : Nat} (ha : 0 < a) (hS : Spec M' lev' (.inr (.inr a) :: av) z T I N mc' ms' post')
    (hr : (Nat.blt lev' lev && av.length.beq n && (xwd st).ble 8) = true) (hc : ce + mc' ≤ mc ∧ sl + ms' ≤ ms) (k : ∀ r z' T' I' N', post' r z' T' I' N' → V Γ E Q z' T' I' N' (ce + mc') (sl + ms') (pc + 3) lv (r.toList ++ st)) : V Γ E Q z T I N ce sl pc lv (av.reverse ++ .inr (.inr a) :: st) := by
  intro H locs ls hR hSS hl
  simp only [Bool.and_eq_true] at hr
  obtain ⟨⟨hr1, hr2⟩, hr3⟩ := hr
  have hr1 : lev' < lev := Nat.le_of_ble_eq_true hr1
  have hr2 : av.length = n := Nat.eq_of_beq_eq_true hr2
  have hr3 : xwd st ≤ 8 := Nat.le_of_ble_eq_true hr3
  obtain ⟨⟨hx, hb, -, hml, hown, -⟩, -, ho, hK, hW, hX, hz⟩ := id D.1
  have e : (Value.ref a :: av.map xv) = (.inr (.inr a) :: av : List xV).map xv := by show _ = xr a :: _; rw [xr_pos ha]
  have hp : PreS (gs Γ) H (va_Pc ((.inr (.inr a) :: av : List xV).map xv) (xPre E z T I N)) (Value.ref a :: av.map xv) := ⟨xPre.blind, by rw [e]; exact x_pre D.1 hR hSS⟩
  have cb := x_cb (mc' := mc') (ms' := ms') D hm.1 (hW.use hlk rfl) hr1
  rw [hm.2.2.2] at cb
  have run := va_runI (e := ge Γ) (below := gb Γ) (meth := gt Γ) (locs := locs) (cells := ce) (slots := sl) (g := F0 (gm Γ) pc ls ((av.reverse ++ .inr (.inr a) :: st).map xv)) (rest := st.map xv) (Ts := []) ⟨hx, hb, hml, hown, fun _ h => nomatch h⟩ (hS (gl Γ) E) ⟨cb, hm.2.2.1, hW.use hm.2.1 rfl⟩ hp rfl (by rw [List.length_map]; exact hr2) (hl.1.trans hml) (by rw [List.map_append, List.map_reverse]; show _ ++ xr a :: _ = _; rw [xr_pos ha]) (lv_room (by rw [xwd_sum]; exact hr3)) (D.1.dec hf) (by rw [D.2]; exact hc)
  intro T9 hT9 X
  obtain ⟨v, st₀, t, T', L, h0, X', hL, e1, e2, hq, st9⟩ := run T9 hT9 X
  obtain ⟨t2, a1, b1⟩ := x_after (p := gp Γ) (T9 := T9) (r := none) k hSS hl h0 hL e1 hq X'
  exact ⟨t2, st9 t2 a1, b1⟩
theorem V_callN (D : xD Γ E M lev mc ms) (hm : xMi M' n) (hf : xfe M pc = some (.invokespecial idx, 3)) (hlk : Cond.methodLinkNest (xRn M.2.2.2.2.1) idx M'.1 "CoapDesk" ∈ lw_tbl) {a : Nat} (ha : 0 < a) (hS : Spec M' lev' (.inr (.inr a) :: av) z T I N mc' ms' post')
    (hr : (Nat.blt lev' lev && av.length.beq n && (xwd st).ble 8) = true) (hc : ce + mc' ≤ mc ∧ sl + ms' ≤ ms) (k : ∀ r z' T' I' N', post' r z' T' I' N' → V Γ E Q z' T' I' N' (ce + mc') (sl + ms') (pc + 3) lv (r.toList ++ st)) : V Γ E Q z T I N ce sl pc lv (av.reverse ++ .inr (.inr a) :: st) := by
  intro H locs ls hR hSS hl
  simp only [Bool.and_eq_true] at hr
  obtain ⟨⟨hr1, hr2⟩, hr3⟩ := hr
  have hr1 : lev' < lev := Nat.le_of_ble_eq_true hr1
  have hr2 : av.length = n := Nat.eq_of_beq_eq_true hr2
  have hr3 : xwd st ≤ 8 := Nat.le_of_ble_eq_true hr3
  obtain ⟨⟨hx, hb, -, hml, hown, -⟩, -, ho, hK, hW, hX, hz⟩ := id D.1
  have e : (Value.ref a :: av.map xv) = (.inr (.inr a) :: av : List xV).map xv := by show _ = xr a :: _; rw [xr_pos ha]
  have hp : PreS (gs Γ) H (va_Pc ((.inr (.inr a) :: av : List xV).map xv) (xPre E z T I N)) (Value.ref a :: av.map xv) := ⟨xPre.blind, by rw [e]; exact x_pre D.1 hR hSS⟩
  have hb9 := hm.1
  have cn : va_CN (gR Γ) (gs Γ) (ga Γ) (xRn M.2.2.2.2.1) idx M'.1 "CoapDesk" M'.2.1 M'.2.2.1 none (xws M') (xRm lev' mc' ms') mc' ms' n := by
    have hR9 := D.2
    refine ⟨⟨rfl, rfl, ?_, ?_, ?_, ?_⟩, ?_, hW.use hb9.2.1 rfl, hb9.2.2.1, fun sig h => ?_, hW.use hlk rfl⟩
    · rw [hR9]; exact hr1
    · rw [hR9]; show 8 + (M'.2.2.1 + 11) + 32 * lev' ≤ 32 * lev
      have := hb9.2.2.2.2.1
      omega
    · intro w hw a' U hWm
      rw [List.mem_singleton.mp hw]
      exact hW.at hWm hb9.1 rfl a'
    · rw [← hm.2.2.2]; exact List.mem_singleton.mpr rfl
    · rw [← hm.2.2.2]; exact hW.use hb9.1 rfl
    · have h2 := hb9.2.2.2.1
      rw [h] at h2
      exact (Option.some.inj h2).symm
  have run := va_runIN (e := ge Γ) (below := gb Γ) (meth := gt Γ) (locs := locs) (cells := ce) (slots := sl) (g := F0 (gm Γ) pc ls ((av.reverse ++ .inr (.inr a) :: st).map xv)) (rest := st.map xv) (Ts := []) ⟨hx, hb, hml, hown, fun _ h => nomatch h⟩ (hS (gl Γ) E) ⟨cn, hm.2.2.1, hW.use hm.2.1 rfl⟩ hp rfl (by rw [List.length_map]; exact hr2) (hl.1.trans hml) (by rw [List.map_append, List.map_reverse]; show _ ++ xr a :: _ = _; rw [xr_pos ha]) (lv_room (by rw [xwd_sum]; exact hr3)) (D.1.dec hf) (by rw [D.2]; exact hc)
  intro T9 hT9 X
  obtain ⟨v, st₀, t, T', L, h0, X', hL, e1, e2, hq, st9⟩ := run T9 hT9 X
  obtain ⟨t2, a1, b1⟩ := x_after (p := gp Γ) (T9 := T9) (r := none) k hSS hl h0 hL e1 hq X'
  exact ⟨t2, st9 t2 a1, b1⟩
end XCalls
