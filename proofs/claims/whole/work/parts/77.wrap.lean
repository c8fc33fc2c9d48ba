/-! the law's own methods: each calls one of the desk's, and takes what it throws -/
def xCa (U : State) : Prop := va_Nc "java/lang/IllegalStateException" "java/lang/IllegalArgumentException" U
theorem xCa.warm {s U : State} (h : xCa s) (hW : s.WarmedH U.vm) : xCa U := va_Nc.moved hW.alike h
abbrev xHH : Type := List (Nat × Nat × Nat × Nat)
def xwsW (M : xM) (hh : xHH) : List Cond := [.codeWith M.1 M.2.1 M.2.2.1 M.2.2.2.1 hh]
def xPW (E : xE) (z : Nat) (T : xY) (I : xI) (N : xN) (U : State) : Prop := xPre E z T I N U ∧ xStr U ∧ xCa U
def WSpec (M : xM) (hh : xHH) (lev : Nat) (av : List xV) (z : Nat) (T : xY) (I : xI) (N : xN) (mc ms : Nat) (post : xPo) : Prop :=
  ∀ (l : Launch) (E : xE), l.stackTraces = false → Met l M.1 (xwsW M hh) (xRm lev mc ms) (va_Pc (av.map xv) (xPW E z T I N)) (xPost E post) mc ms (fun q => E.2.2 ≤ q)
def xDW (Γ : xG) (E : xE) (M : xM) (hh : xHH) (lev mc ms : Nat) : Prop := xD Γ E M lev mc ms ∧ xStr (gs Γ) ∧ xCa (gs Γ) ∧ (gl Γ).stackTraces = false ∧ (gc Γ).exceptionTable.toList = tableOf hh
theorem metWH {l : Launch} {y : MethodName} {ws ws' : List Cond} {rm : Room} {Pc : Array Value → State → Prop} {Qc : Array Value → State → Outcome → State → Prop} {mc ms : Nat} {free : Addr → Prop} {cc : ByteArray} {maxL : Nat} {ret : Option FieldType} {hh : List (Nat × Nat × Nat × Nat)}
    (hy : plainName y.cls = true) (hw : ws = Cond.codeWith y cc maxL ret hh :: ws')
    (body : ∀ p e s m args below meth c s₁, BodyLoose p l y (headSpec ws rm) cc maxL ret e s m args below meth c s₁ → c.maxLocals = maxL → Pc args s →
      W p l e (headSpec ws rm).room s m args below meth c s.heap [] 0 0 (MQ below Qc args s mc ms free) (entryFrame m args maxL)) : Met l y ws rm Pc Qc mc ms free := by
  refine MetFree.of_bodyS (code := cc) (maxLocals := maxL) (ret := ret) hy ?_ ?_
  · intro args s m h hn
    obtain ⟨m9, meth, c, hn9, h1, h2, h3, h4, -, h5, h6, -⟩ := Cond.codeWith_spec (atoms_spec (ws := ws) h _ (by rw [hw]; exact List.mem_cons_self))
    cases hn.symm.trans hn9
    exact ⟨meth, c, h1, h2, h3, h4, h5, h6⟩
  · intro p e s m args below meth c s₁ B hml hP _
    have hh0 : s₁.heap = s.heap := by rw [B.state]; rfl
    obtain ⟨t, a1, o, b1, b2, b3⟩ := body p e s m args below meth c s₁ B hml hP s₁ hh0 (Stand.of_body B)
    exact ⟨t, o, a1, b1, b2, ⟨b3.1, b3.2⟩⟩
theorem WSpec_of {M : xM} {hh : xHH} {lev : Nat} {av : List xV} {z : Nat} {T : xY} {I : xI} {N : xN} {mc ms : Nat} {post : xPo} (hok : ∀ e ∈ M.2.2.2.2.2, decode M.2.1 e.1 = .ok (e.2.1, e.2.2)) (hpl : plainName M.1.cls = true) (hcls : xRn M.2.2.2.2.1 = M.1.cls ∧ M.2.2.2.2.1 < 12) (hlen : xwd av ≤ M.2.2.1)
    (h : ∀ (Γ : xG) (E : xE), xDW Γ E M hh lev mc ms → V Γ E (xQ Γ E post mc ms) z T I N 0 0 0 (xent av 0) []) : WSpec M hh lev av z T I N mc ms post := by
  intro l E hl0
  refine metWH (cc := M.2.1) (maxL := M.2.2.1) (ret := M.2.2.2.1) (hh := hh) hpl rfl ?_
  intro p e s m args below meth c s₁ B hml hv
  obtain ⟨rfl, ⟨hR, hK, hW, hX⟩, hS, hCa⟩ := hv
  have hown : s.vm.findClass M.1.cls = some m.cls := findClass_of_methodNamed B.named
  have C : xD (p, l, e, (headSpec (xwsW M hh) (xRm lev mc ms)).room, s, m, (av.map xv).toArray, below, meth, c) E M lev mc ms :=
    ⟨⟨⟨B.exec, B.bytes, B.returns, hml, by rw [hcls.1]; exact hown, B.notSynchronized, (name_of_methodNamed B.named B.method).1⟩, hok, hcls.2, hK, hW, hX, by rw [hR.1]; exact hR.2.1⟩, rfl⟩
  have htb := vx_table (x := M.1) B (atoms_spec (ws := xwsW M hh) B.pre _ List.mem_cons_self)
  have hl := lv_entry (av.map xv) (n := M.2.2.1) (by rw [xwd_len]; exact hlen)
  rw [lg_entry_eq]
  exact h _ E ⟨C, hS, hCa, hl0, htb⟩ s.heap [] _ hR va_S.rf ⟨hl.1.trans hml.symm, hl.2.1, fun i v hi => hl.2.2 _ (xent_in av 0 i v hi)⟩
section XSto
variable {p : Program} {l : Launch} {e : Env} {R : Room} {s : State} {m : MethodId} {args : Array Value} {below : List Frame} {meth : Method} {c : Code} {H : Heap} {locs : List Loc} {cells slots : Nat} {Q : State → Prop}
variable {pc : Nat} {ls ls' : Array Slot} {rest : List Value} {cc : ByteArray}
theorem ws_astoreR (hexec : p.tables.exec = Jvm.exec) (hb : c.code = cc) {k : Nat} {x : Addr} (hdg : decode cc pc = .ok (.astore k, 2)) (e' : storeLocals ls k (.ref x) = some ls')
    (kk : W p l e R s m args below meth c H locs cells slots Q (F0 m (pc + 2) ls' rest)) : W p l e R s m args below meth c H locs cells slots Q (F0 m pc ls (.ref x :: rest)) := by
  intro T hT X
  obtain ⟨t, a, b⟩ := kk T hT X
  refine ⟨t, ?_, b⟩
  jvm_step X.here [X.here.top, ↓top_set X.here.top, hexec, hb, hdg, e', Value.isRef]
  exact a
theorem ws_astoreR_n (hexec : p.tables.exec = Jvm.exec) (hb : c.code = cc) {k : Fin 4} {x : Addr} (hdg : decode cc pc = .ok (.astore_n k, 1)) (e' : storeLocals ls k.val (.ref x) = some ls')
    (kk : W p l e R s m args below meth c H locs cells slots Q (F0 m (pc + 1) ls' rest)) : W p l e R s m args below meth c H locs cells slots Q (F0 m pc ls (.ref x :: rest)) := by
  intro T hT X
  obtain ⟨t, a, b⟩ := kk T hT X
  refine ⟨t, ?_, b⟩
  jvm_step X.here [X.here.top, ↓top_set X.here.top, hexec, hb, hdg, e', Value.isRef]
  exact a
end XSto
/-- the row x of a table takes what is thrown; those ahead don't -/
def xCat (cls : String) (pc : Nat) (pre : xHH) (x : Nat × Nat × Nat × Nat) : Prop := covers ⟨x.1, x.2.1, x.2.2.1, x.2.2.2⟩ pc = true ∧ x.2.2.2 ≠ 0 ∧ Cond.classLink RL x.2.2.2 cls ∈ lw_tbl ∧ Cond.castable cls cls ∈ lw_tbl ∧ ∀ y ∈ pre, y.2.2.2 = 13 ∧ cls = "java/lang/IllegalStateException"
def xSto (M : xM) (pc k len : Nat) : Prop := (xfe M pc = some (.astore k, 2) ∧ len = 2) ∨ ∃ f : Fin 4, f.val = k ∧ xfe M pc = some (.astore_n f, 1) ∧ len = 1
theorem ck13 : Cond.classLink RL 13 "java/lang/IllegalArgumentException" ∈ lw_tbl := by decide +kernel
theorem ck19 : Cond.classLink RL 19 "java/lang/IllegalStateException" ∈ lw_tbl := by decide +kernel
theorem ck42 : Cond.classLink RL 42 "java/lang/UnsupportedOperationException" ∈ lw_tbl := by decide +kernel
theorem cs13 : Cond.castable "java/lang/IllegalArgumentException" "java/lang/IllegalArgumentException" ∈ lw_tbl := by decide +kernel
theorem cs19 : Cond.castable "java/lang/IllegalStateException" "java/lang/IllegalStateException" ∈ lw_tbl := by decide +kernel
theorem cs42 : Cond.castable "java/lang/UnsupportedOperationException" "java/lang/UnsupportedOperationException" ∈ lw_tbl := by decide +kernel
section XTry
variable {Γ : xG} {E : xE} {M M' : xM} {hh : xHH} {T : xY} {I : xI} {N : xN} {z : Nat} {ce sl pc lev lev' mc ms mc' ms' n idx : Nat} {Q : State → Prop} {lv : xL} {st : List xV} {post post' : xPo} {xp xp' : xXp} {av : List xV}
theorem xStr_blind {l : List Value} {z : Nat} : FrameBlind (va_Pc l (fun U => xPre E z T I N U ∧ xStr U)) := by
  intro a U g mk ⟨h0, h1, h2⟩
  obtain ⟨_, g1⟩ := xPre.blind (av := l) a U g mk ⟨h0, h1⟩
  exact ⟨h0, g1, xStr.warm (s := U) (U := U.calling g mk a) h2 (State.WarmedH.refl U)⟩
theorem V_tryV (D : xDW Γ E M hh lev mc ms) (hM : M.2.2.2.2.1 = 11) (hm : xMv M' n) (hf : xfe M pc = some (.invokevirtual idx, 3)) (hlk : Cond.methodLink (xRn M.2.2.2.2.1) idx M'.1 ∈ lw_tbl) {a : Nat} (hS : XSpec M' lev' (.inr (.inr a) :: av) z T I N mc' ms' post' xp') (hT : T a = some (.inr M'.2.2.2.2.1))
    (hr : (Nat.blt lev' lev && av.length.beq n && (xwd st).ble 8) = true) (hc : ce + mc' ≤ mc ∧ sl + ms' ≤ ms) (k : ∀ r z' T' I' N', post' r z' T' I' N' → V Γ E Q z' T' I' N' (ce + mc') (sl + ms') (pc + 3) lv (r.toList ++ st))
    (kx : ∀ cls z' T' I' N', xp' cls z' T' I' N' → ∃ pre x suf, hh = pre ++ x :: suf ∧ xCat cls pc pre x ∧ ∃ kk len, xSto M x.2.2.1 kk len ∧ kk < M.2.2.1 ∧ V Γ E Q z' T' I' N' (ce + mc') (sl + ms') (x.2.2.1 + len) (fun _ => none) []) : V Γ E Q z T I N ce sl pc lv (av.reverse ++ .inr (.inr a) :: st) := by
  intro H locs ls hR hSS hl
  simp only [Bool.and_eq_true] at hr
  obtain ⟨⟨hr1, hr2⟩, hr3⟩ := hr
  have hr1 : lev' < lev := Nat.le_of_ble_eq_true hr1
  have hr2 : av.length = n := Nat.eq_of_beq_eq_true hr2
  have hr3 : xwd st ≤ 8 := Nat.le_of_ble_eq_true hr3
  obtain ⟨D0, hStr, hCa, htr, htb⟩ := D
  obtain ⟨⟨hx, hb, -, hml, hown, hlocks, -⟩, -, ho, hK, hW, hX, hz⟩ := id D0.1
  obtain ⟨-, ⟨cell, q1, q2, q3, -⟩, -, hpos⟩ := hR.obj hT
  have hc11 := hm.2.2.2
  have e : (Value.ref a :: av.map xv) = (.inr (.inr a) :: av : List xV).map xv := by show _ = xr a :: _; rw [xr_pos hpos]
  have hp : PreV (gs Γ) H (xRn M'.2.2.2.2.1) a (va_Pc ((.inr (.inr a) :: av : List xV).map xv) (fun U => xPre E z T I N U ∧ xStr U)) (av.map xv) := by
    refine ⟨xStr_blind, ⟨cell, q1, by rw [q3]; rfl, by rw [q2]; exact (hK.cls hc11).2.1⟩, ?_⟩
    rw [e]
    intro U hU hWm
    obtain ⟨g0, g1⟩ := x_pre D0.1 hR hSS (avv := (.inr (.inr a) :: av : List xV).map xv) U hU hWm
    exact ⟨g0, g1, hStr.warm hWm⟩
  have cw : CallW (gR Γ) (gs Γ) (ga Γ) (xRn M.2.2.2.2.1) (xRn M'.2.2.2.2.1) idx M'.1 M'.2.1 M'.2.2.1 M'.2.2.2.1 (xws M') (xRm lev' mc' ms') mc' ms' n :=
    ⟨x_cb D0 hm.1 (hW.use hlk rfl) hr1, hW.use hm.2.1 rfl, by rw [hm.1.2.2.2.2.2.1]; exact hW.use hm.2.2.1 rfl⟩
  have run := vx_runV (e := ge Γ) (below := gb Γ) (meth := gt Γ) (locs := locs) (cells := ce) (slots := sl) (g := F0 (gm Γ) pc ls ((av.reverse ++ .inr (.inr a) :: st).map xv)) (rest := st.map xv) (Ts := []) ⟨hx, hb, hml, hown, fun _ h => nomatch h⟩ (hS (gl Γ) E htr) cw hp rfl (by rw [List.length_map]; exact hr2) (hl.1.trans hml) (by rw [List.map_append, List.map_reverse]; show _ ++ xr a :: _ = _; rw [xr_pos hpos]) (lv_room (by rw [xwd_sum]; exact hr3)) (D0.1.dec hf) (by rw [D0.2]; exact hc)
  intro T9 hT9 X
  rcases run T9 hT9 X with ⟨v, st₀, t, T', L, h0, X', hL, e1, e2, hq, st9⟩ | ⟨q, st₀, t, T', L, E9, ce9, h0, X', hL, e1, e2, hq, hce, hcv, hcl, st9⟩
  · obtain ⟨t2, a1, b1⟩ := x_after (p := gp Γ) (T9 := T9) (r := none) k hSS hl h0 hL e1 hq X'
    exact ⟨t2, st9 t2 a1, b1⟩
  · obtain ⟨⟨z', T1, I1, N1, hp1, hR1⟩, hz1, hkp1⟩ := hq
    rw [h0] at hz1 hkp1
    obtain ⟨pre, x, suf, hsp, ⟨hcov, hx0, hlink, hcast, hpass⟩, kk, len, hsto, hkk, hV⟩ := kx _ _ _ _ _ hp1
    have hownL : (gs Γ).vm.findClass RL = some (gm Γ).cls := by rw [hM] at hown; exact hown
    have hSS' : va_S (fun q => E.2.2 ≤ q) (gs Γ).heap T'.heap (locs ++ L) := ⟨Nat.le_trans hSS.1 (by rw [e1]; exact hz1), fun q g1 g2 => by rw [e1, hkp1 q (Nat.lt_of_lt_of_le g1 hSS.1) g2]; exact hSS.2.1 q g1 g2, fun q hq => by
      rcases List.mem_append.mp hq with h | h
      · exact hSS.2.2 q h
      · exact hL q h⟩
    obtain ⟨ls', es, hls⟩ := lv_store1 (l := []) (v := .ref q) ⟨hl.1, hl.2.1, fun q hq => nomatch hq⟩ (i := kk) (by rw [hml]; exact hkk) rfl
    have hend : W (gp Γ) (gl Γ) (ge Γ) (gR Γ) (gs Γ) (gm Γ) (ga Γ) (gb Γ) (gt Γ) (gc Γ) T'.heap (locs ++ L) (ce + mc') (sl + ms') Q (F0 (gm Γ) (x.2.2.1 + len) ls' []) :=
      hV T'.heap (locs ++ L) ls' (by rw [e1]; exact hR1) hSS' ⟨hls.1, hls.2.1, fun i v hi => by cases hi⟩
    have out : vx_W (gp Γ) (gl Γ) (ge Γ) (gR Γ) (gs Γ) (gm Γ) (ga Γ) (gb Γ) (gt Γ) (gc Γ) T'.heap (locs ++ L) (ce + mc') (sl + ms') Q (F0 (gm Γ) pc ls (st.map xv)) q := by
      refine vx_catch (own := RL) (name := E9) (E := E9) (ce := ce9) hownL (tableOf pre) ⟨x.1, x.2.1, x.2.2.1, x.2.2.2⟩ (tableOf suf) (by rw [htb, hsp]; unfold tableOf; rw [List.map_append]; rfl) (fun y hy => ?_) hcov hx0 (hW.use hlink rfl) (hW.use hcast rfl) (by rw [e1]; exact hce) hcv hcl ?_
      · unfold tableOf at hy
        obtain ⟨y', hy', rfl⟩ := List.mem_map.mp hy
        obtain ⟨h13, hE9⟩ := hpass y' hy'
        subst hE9
        exact Or.inr ⟨by dsimp only; rw [h13]; decide, "java/lang/IllegalArgumentException", by dsimp only; rw [h13]; exact hW.use ck13 rfl, hCa⟩
      · rcases hsto with ⟨h1, h2⟩ | ⟨f, h1, h2, h3⟩
        · subst h2
          exact ws_astoreR hx hb (D0.1.dec h1) es hend
        · subst h3
          rw [← h1] at es
          exact ws_astoreR_n hx hb (D0.1.dec h2) es hend
    obtain ⟨t2, a1, b1⟩ := out T' rfl X'
    exact ⟨t2, st9.trans a1, b1⟩
end XTry
section XKpt
variable {T : xY} {I I' : xI} {N N' : xN} {d y : Nat} {x : Dk}
theorem DkAt.kept (h : DkAt T I N d x) (hk : ∀ a, d ≤ a → a < d + 494 → I' a = I a ∧ N' a = N a) : DkAt T I' N' d x := by
  obtain ⟨⟨a1, a2, a3, a4, a5⟩, b1, s1, mb, ms, ⟨n1, n2, n3⟩, m1, g', lat', m2⟩ := h
  have hd := hk d (by omega) (by omega)
  exact ⟨⟨a1, by rw [hd.2]; exact a2, by rw [hd.2]; exact a3, by rw [hd.2]; exact a4, a5⟩, b1.kept (hk _ (by omega) (by omega)).1 (hk _ (by omega) (by omega)).1 (hk _ (by omega) (by omega)).2, s1.kept (fun a h1 h2 => hk a (by omega) (by omega)), mb, ms, ⟨by rw [hd.2]; exact n1, by rw [hd.2]; exact n2, n3⟩, m1.kept (fun a h1 h2 => hk a (by omega) (by omega)), g', lat', m2.kept (fun a h1 h2 => hk a (by omega) (by omega))⟩
theorem MdAt.keptO (h : MdAt T I N y x) (hok : MOk x.2.1.1) (hk : ∀ a, y ≤ a → a < y + 24 → I' a = I a) (hN : N' y = N y) : MdAt T I' N' y x := by
  have h' := h.kept (I' := I') hok (fun a k q => by rw [hk a (by unfold Kp Rb Cb Mb Ob Sb at q; omega) (by unfold Kp Rb Cb Mb Ob Sb at q; omega)])
  exact ⟨⟨h.1.1, fun e he => ⟨by rw [hN]; exact (h.1.2 e he).1, (h.1.2 e he).2⟩⟩, h'.2⟩
end XKpt
/-- what the law's own method leaves: its answer tells what was thrown; out holds the answer -/
def WP (z : Nat) (T : xY) (I : xI) (N : xN) (d o : Nat) (w : Nat × Int × Dk) : xPo := fun r z' T' I' N' => r = some (.inl (w.1 : Int)) ∧ z ≤ z' ∧ T' = T ∧ (∀ a, (a < d ∨ d + 494 ≤ a) → a ≠ o → I' a = I a) ∧ (∀ a, (a < d ∨ d + 494 ≤ a) → N' a = N a) ∧ DkAt T I' N' d w.2.2 ∧ (w.1 = 0 → I' o 0 = w.2.1)
def WP0 (z : Nat) (T : xY) (I : xI) (N : xN) (d : Nat) (w : Nat × Int × Dk) : xPo := fun r z' T' I' N' => r = some (.inl (w.1 : Int)) ∧ z ≤ z' ∧ T' = T ∧ (∀ a, (a < d ∨ d + 494 ≤ a) → I' a = I a) ∧ (∀ a, (a < d ∨ d + 494 ≤ a) → N' a = N a) ∧ DkAt T I' N' d w.2.2
