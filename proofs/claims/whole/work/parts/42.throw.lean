/-! methods that may throw -/
def xIA : String := "java/lang/IllegalArgumentException"
def xIS : String := "java/lang/IllegalStateException"
def xUO : String := "java/lang/UnsupportedOperationException"
/-- what is thrown: the class's place in the pool, its constructor's -/
def xThr : List (Nat × Nat × String) := [(47, 51, "java/lang/IllegalArgumentException"), (71, 75, "java/lang/IllegalStateException"), (129, 133, "java/lang/UnsupportedOperationException")]
def xSup : List String := ["java/lang/RuntimeException", "java/lang/Exception"]
theorem xthr_in : ∀ e ∈ xThr, ∀ w ∈ Cond.classLink RX9 e.1 e.2.2 :: Cond.initialized e.2.2 :: vx_atS RX9 e.2.1 e.2.2 xSup, w ∈ lw_tbl ∧ xok w = true ∧ vx_ot w = true := by decide +kernel
theorem xthr_fit : ∀ e ∈ xThr, Bundle.fit e.2.2 = true := by decide +kernel
theorem xsup_fit : ∀ n ∈ xSup, Bundle.fit n = true := by decide +kernel
/-- the texts that come with them -/
def xTx : List (Nat × String) := [(111, "more than 2000 bytes"), (120, "there are not so many bytes at hand"), (131, "more than 20 options"), (143, "what is not 0 .. 5"), (151, "there is no such part"), (153, "there is no such option, or what is not 0 .. 2"), (162, "there is no such peer"), (190, "there is no such resource, or what is not 0 .. 2"), (203, "there would be too many bytes"), (49, "type, code, id or n is out of its range"), (65, "number or n is out of its range"), (73, "there are 20 options"), (85, "n is not 0 .. 8"), (95, "no option was put, or its value would be too long")]
def xStr (U : State) : Prop := ∀ e ∈ xTx, ∃ sa, vk_R RX9 e.1 e.2 sa U
theorem xStr.warm {s U : State} (h : xStr s) (hW : s.WarmedH U.vm) : xStr U := fun e he => by
  obtain ⟨sa, h1⟩ := h e he
  exact ⟨sa, vk_R.warm hW h1⟩
abbrev xXp : Type := String → Nat → xY → xI → xN → Prop
def xTX (E : xE) (xp : xXp) : String → State → State → Prop := fun cls st t => (∃ (z : Nat) (T : xY) (I : xI) (N : xN), xp cls z T I N ∧ xR E z T I N t.heap) ∧ va_F (fun q => E.2.2 ≤ q) st t
/-- THE CONTRACT of a method that may throw -/
def XSpec (M : xM) (lev : Nat) (av : List xV) (z : Nat) (T : xY) (I : xI) (N : xN) (mc ms : Nat) (post : xPo) (xp : xXp) : Prop :=
  ∀ (l : Launch) (E : xE), l.stackTraces = false → vx_Met l M.1 (xws M) (xRm lev mc ms) (va_Pc (av.map xv) (fun U => xPre E z T I N U ∧ xStr U)) (xPost E post) (xTX E xp) mc ms (fun q => E.2.2 ≤ q)
def xQX (Γ : xG) (E : xE) (post : xPo) (xp : xXp) (mc ms : Nat) : State → Prop := vx_MQ (gb Γ) (xPost E post) (xTX E xp) (ga Γ) (gs Γ) mc ms (fun q => E.2.2 ≤ q)
def xDX (Γ : xG) (E : xE) (M : xM) (lev mc ms : Nat) : Prop := xD Γ E M lev mc ms ∧ xStr (gs Γ) ∧ (gl Γ).stackTraces = false ∧ (∀ x ∈ (gc Γ).exceptionTable.toList, False)
theorem XSpec_of {M : xM} {lev : Nat} {av : List xV} {z : Nat} {T : xY} {I : xI} {N : xN} {mc ms : Nat} {post : xPo} {xp : xXp} (hok : ∀ e ∈ M.2.2.2.2.2, decode M.2.1 e.1 = .ok (e.2.1, e.2.2)) (hpl : plainName M.1.cls = true) (hcls : xRn M.2.2.2.2.1 = M.1.cls ∧ M.2.2.2.2.1 < 12) (hlen : xwd av ≤ M.2.2.1)
    (h : ∀ (Γ : xG) (E : xE), xDX Γ E M lev mc ms → V Γ E (xQX Γ E post xp mc ms) z T I N 0 0 0 (xent av 0) []) : XSpec M lev av z T I N mc ms post xp := by
  intro l E hl0
  refine vx_ofW (cc := M.2.1) (maxL := M.2.2.1) (ret := M.2.2.2.1) hpl rfl ?_
  intro p e s m args below meth c s₁ B hml hex hv
  obtain ⟨rfl, ⟨hR, hK, hW, hX⟩, hS⟩ := hv
  have hown : s.vm.findClass M.1.cls = some m.cls := findClass_of_methodNamed B.named
  have C : xD (p, l, e, (headSpec (xws M) (xRm lev mc ms)).room, s, m, (av.map xv).toArray, below, meth, c) E M lev mc ms :=
    ⟨⟨⟨B.exec, B.bytes, B.returns, hml, by rw [hcls.1]; exact hown, B.notSynchronized, (name_of_methodNamed B.named B.method).1⟩, hok, hcls.2, hK, hW, hX, by rw [hR.1]; exact hR.2.1⟩, rfl⟩
  have hl := lv_entry (av.map xv) (n := M.2.2.1) (by rw [xwd_len]; exact hlen)
  rw [lg_entry_eq]
  exact h _ E ⟨C, hS, hl0, hex⟩ s.heap [] _ hR va_S.rf ⟨hl.1.trans hml.symm, hl.2.1, fun i v hi => hl.2.2 _ (xent_in av 0 i v hi)⟩
theorem xR.grown {E : xE} {z : Nat} {T : xY} {I : xI} {N : xN} {H H' : Heap} (h : xR E z T I N H) (hs : H.size ≤ H'.size) (ho : ∀ q : Nat, q < H.size → H'[q]? = H[q]?) : xR E H'.size T I N H' := by
  refine ⟨rfl, by have := h.2.1; have := h.1; omega, h.2.2.1, fun a => ?_⟩
  cases hT : T a with
  | none => unfold xAt; rw [hT]; trivial
  | some t =>
    have hl := h.lt (a := a) (by rw [hT]; exact fun h => by cases h)
    exact (h.2.2.2 a).kept (ho a (by rw [h.1]; exact hl)) rfl rfl
section XThrow
variable {Γ : xG} {E : xE} {M M' : xM} {T : xY} {I : xI} {N : xN} {z : Nat} {ce sl pc lev lev' mc ms mc' ms' n idx : Nat} {Q : State → Prop} {lv : xL} {st : List xV} {post post' : xPo} {xp xp' : xXp} {av : List xV}
theorem V_norm (h : V Γ E (xQ Γ E post mc ms) z T I N ce sl pc lv st) : V Γ E (xQX Γ E post xp mc ms) z T I N ce sl pc lv st := fun H locs ls hR hS hl => vx_ret (h H locs ls hR hS hl)
theorem V_throw (D : xDX Γ E M lev mc ms) (e : Nat × Nat × String) (he : e ∈ xThr) (tx : Nat × String) (ht : tx ∈ xTx) (hM : M.2.2.2.2.1 = 9) (h0 : xfe M pc = some (.new e.1, 3)) (h3 : xfe M (pc + 3) = some (.dup, 1)) (h4 : xfe M (pc + 4) = some (.ldc tx.1, 2)) (h6 : xfe M (pc + 6) = some (.invokespecial e.2.1, 3)) (h9 : xfe M (pc + 9) = some (.athrow, 1))
    (hlev : ((6).ble lev && (xwd st).ble 8) = true) (hc : ce + 1 ≤ mc ∧ sl + 6 ≤ ms) (hp : ∀ z', z ≤ z' → xp e.2.2 z' T I N) : V Γ E (xQX Γ E post xp mc ms) z T I N ce sl pc lv st := by
  intro H locs ls hR hSS hl
  simp only [Bool.and_eq_true] at hlev
  have hr1 : 6 ≤ lev := Nat.le_of_ble_eq_true hlev.1
  have hr3 : xwd st ≤ 8 := Nat.le_of_ble_eq_true hlev.2
  obtain ⟨D0, hStr, htr, hex⟩ := D
  obtain ⟨⟨hx, hb, -, hml, hown, hlocks, -⟩, -, ho, hK, hW, hX, hz⟩ := id D0.1
  obtain ⟨sa, hsa⟩ := hStr tx ht
  have hown9 : (gs Γ).vm.findClass RX9 = some (gm Γ).cls := by rw [hM] at hown; exact hown
  have hin := xthr_in e he
  have hat : ∀ w ∈ Cond.classLink RX9 e.1 e.2.2 :: Cond.initialized e.2.2 :: vx_atS RX9 e.2.1 e.2.2 xSup, w.before (ga Γ) (gs Γ) = true := fun w hw => hW.use (hin w hw).1 (hin w hw).2.1
  refine vx_throwS (names := xSup) hx hb htr hown9 (xthr_fit e he) xsup_fit (hat _ List.mem_cons_self) (hat _ (List.mem_cons_of_mem _ List.mem_cons_self)) hsa (fun w hw => hat w (List.mem_cons_of_mem _ (List.mem_cons_of_mem _ hw))) (fun w hw => (hin w hw).2.2) hX.1 hX.2 hSS hl.1 (D0.1.dec h0) (D0.1.dec h3) (D0.1.dec h4) (D0.1.dec h6) (D0.1.dec h9) (fun x hx => absurd (hex x hx) (fun h => h)) ?_ ?_ ?_ ?_ hlocks (fun t hal hsz hkp => ?_) hSS.2.2 hc.1 hc.2
  · rw [D0.2]; show 2 + 3 < lev; omega
  · rw [D0.2, xwd_sum]; show _ + (13 * (2 + 1) + 43) ≤ 32 * lev; omega
  · rw [D0.2]; exact hc.1
  · rw [D0.2]; exact hc.2
  · refine ⟨⟨t.heap.size, T, I, N, hp _ (by rw [← hR.1]; exact hsz), hR.grown hsz hkp⟩, Nat.le_trans hSS.1 hsz, fun q h1 h2 => ?_⟩
    rw [hkp q (Nat.lt_of_lt_of_le h1 hSS.1)]
    exact hSS.2.1 q h1 h2
/-- a call of one that may throw: what is thrown goes on to the caller -/
theorem V_thruS (D : xDX Γ E M lev mc ms) (hm : xMs M' n) (hf : xfe M pc = some (.invokestatic idx, 3)) (hlk : Cond.methodLink (xRn M.2.2.2.2.1) idx M'.1 ∈ lw_tbl) (hS : XSpec M' lev' av z T I N mc' ms' post' xp')
    (hr : (Nat.blt lev' lev && av.length.beq n && (xwd st).ble 8) = true) (hc : ce + mc' ≤ mc ∧ sl + ms' ≤ ms) (k : ∀ r z' T' I' N', post' r z' T' I' N' → V Γ E (xQX Γ E post xp mc ms) z' T' I' N' (ce + mc') (sl + ms') (pc + 3) lv (r.toList ++ st)) (kx : ∀ cls z' T' I' N', xp' cls z' T' I' N' → xp cls z' T' I' N') : V Γ E (xQX Γ E post xp mc ms) z T I N ce sl pc lv (av.reverse ++ st) := by
  intro H locs ls hR hSS hl
  simp only [Bool.and_eq_true] at hr
  obtain ⟨⟨hr1, hr2⟩, hr3⟩ := hr
  have hr1 : lev' < lev := Nat.le_of_ble_eq_true hr1
  have hr2 : av.length = n := Nat.eq_of_beq_eq_true hr2
  have hr3 : xwd st ≤ 8 := Nat.le_of_ble_eq_true hr3
  obtain ⟨D0, hStr, htr, hex⟩ := D
  obtain ⟨⟨hx, hb, -, hml, hown, hlocks, -⟩, -, ho, hK, hW, hX, hz⟩ := id D0.1
  have hbl : FrameBlind (va_Pc (av.map xv) (fun U => xPre E z T I N U ∧ xStr U)) := by
    intro a U g mk ⟨h0, h1, h2⟩
    obtain ⟨_, g1⟩ := xPre.blind (av := av.map xv) a U g mk ⟨h0, h1⟩
    exact ⟨h0, g1, xStr.warm (s := U) (U := U.calling g mk a) h2 (State.WarmedH.refl U)⟩
  have hp : PreS (gs Γ) H (va_Pc (av.map xv) (fun U => xPre E z T I N U ∧ xStr U)) (av.map xv) := ⟨hbl, fun U hU hWm => by
    obtain ⟨g0, g1⟩ := x_pre D0.1 hR hSS (avv := av.map xv) U hU hWm
    exact ⟨g0, g1, hStr.warm hWm⟩⟩
  have run := vx_runS (e := ge Γ) (below := gb Γ) (meth := gt Γ) (locs := locs) (cells := ce) (slots := sl) (g := F0 (gm Γ) pc ls ((av.reverse ++ st).map xv)) (rest := st.map xv) (Ts := []) ⟨hx, hb, hml, hown, fun _ h => nomatch h⟩ (hS (gl Γ) E htr) ⟨x_cb (mc' := mc') (ms' := ms') D0 hm.1 (hW.use hlk rfl) hr1, hW.use hm.2 rfl⟩ hp rfl (by rw [List.length_map]; exact hr2) (hl.1.trans hml) (by rw [List.map_append, List.map_reverse]) (lv_room (by rw [xwd_sum]; exact hr3)) (D0.1.dec hf) (by rw [D0.2]; exact hc)
  intro T9 hT9 X
  rcases run T9 hT9 X with ⟨v, st₀, t, T', L, h0, X', hL, e1, e2, hq, st9⟩ | ⟨q, st₀, t, T', L, E9, ce9, h0, X', hL, e1, e2, hq, hce, hcv, hcl, st9⟩
  · obtain ⟨t2, a1, b1⟩ := x_after (p := gp Γ) (T9 := T9) (r := none) k hSS hl h0 hL e1 hq X'
    exact ⟨t2, st9 t2 a1, b1⟩
  · obtain ⟨⟨z', T1, I1, N1, hp1, hR1⟩, hz1, hkp1⟩ := hq
    rw [h0] at hz1 hkp1
    have hsz : (gs Γ).heap.size ≤ t.heap.size := Nat.le_trans hSS.1 hz1
    have hkp : ∀ q : Nat, q < (gs Γ).heap.size → ¬ E.2.2 ≤ q → t.heap[q]? = (gs Γ).heap[q]? := fun q g1 g2 => by
      rw [hkp1 q (Nat.lt_of_lt_of_le g1 hSS.1) g2]; exact hSS.2.1 q g1 g2
    have out : vx_W (gp Γ) (gl Γ) (ge Γ) (gR Γ) (gs Γ) (gm Γ) (ga Γ) (gb Γ) (gt Γ) (gc Γ) T'.heap (locs ++ L) (ce + mc') (sl + ms') (xQX Γ E post xp mc ms) (F0 (gm Γ) pc ls (st.map xv)) q :=
      vx_out (E := E9) (ce := ce9) (fun x hx => absurd (hex x hx) (fun h => h)) hlocks (by rw [e1]; exact hce) hcv hcl (fun t9 ht9 hal => by
        rw [e1] at ht9
        refine ⟨⟨z', T1, I1, N1, kx _ _ _ _ _ hp1, by rw [ht9]; exact hR1⟩, by rw [ht9]; exact hsz, fun q g1 g2 => by rw [ht9]; exact hkp q g1 g2⟩) (fun q hq => by
        rcases List.mem_append.mp hq with h | h
        · exact hSS.2.2 q h
        · exact hL q h) hc.1 hc.2
    obtain ⟨t2, a1, b1⟩ := out T' rfl X'
    exact ⟨t2, st9.trans a1, b1⟩
end XThrow
