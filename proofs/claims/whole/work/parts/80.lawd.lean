/-! words of the law's own methods -/
theorem mwL_begin : xMw mL_begin hL_begin 6 := ⟨List.mem_append_right _ (List.mem_of_getElem? (i := 277) (by decide +kernel)), List.mem_append_right _ (List.mem_of_getElem? (i := 0) (by decide +kernel)), by decide +kernel, by decide +kernel, by decide +kernel, List.mem_append_right _ (List.mem_of_getElem? (i := 276) (by decide +kernel))⟩
theorem mwL_option : xMw mL_option hL_option 5 := ⟨List.mem_append_right _ (List.mem_of_getElem? (i := 368) (by decide +kernel)), List.mem_append_right _ (List.mem_of_getElem? (i := 0) (by decide +kernel)), by decide +kernel, by decide +kernel, by decide +kernel, List.mem_append_right _ (List.mem_of_getElem? (i := 367) (by decide +kernel))⟩
theorem mwL_longer : xMw mL_longer hL_longer 4 := ⟨List.mem_append_right _ (List.mem_of_getElem? (i := 397) (by decide +kernel)), List.mem_append_right _ (List.mem_of_getElem? (i := 0) (by decide +kernel)), by decide +kernel, by decide +kernel, by decide +kernel, List.mem_append_right _ (List.mem_of_getElem? (i := 396) (by decide +kernel))⟩
theorem mwL_payload : xMw mL_payload hL_payload 4 := ⟨List.mem_append_right _ (List.mem_of_getElem? (i := 410) (by decide +kernel)), List.mem_append_right _ (List.mem_of_getElem? (i := 0) (by decide +kernel)), by decide +kernel, by decide +kernel, by decide +kernel, List.mem_append_right _ (List.mem_of_getElem? (i := 409) (by decide +kernel))⟩
theorem mwL_write : xMw mL_write hL_write 2 := ⟨List.mem_append_right _ (List.mem_of_getElem? (i := 421) (by decide +kernel)), List.mem_append_right _ (List.mem_of_getElem? (i := 0) (by decide +kernel)), by decide +kernel, by decide +kernel, by decide +kernel, List.mem_append_right _ (List.mem_of_getElem? (i := 420) (by decide +kernel))⟩
theorem mwL_feed : xMw mL_feed hL_feed 4 := ⟨List.mem_append_right _ (List.mem_of_getElem? (i := 470) (by decide +kernel)), List.mem_append_right _ (List.mem_of_getElem? (i := 0) (by decide +kernel)), by decide +kernel, by decide +kernel, by decide +kernel, List.mem_append_right _ (List.mem_of_getElem? (i := 469) (by decide +kernel))⟩
theorem mwL_end : xMw mL_end hL_end 2 := ⟨List.mem_append_right _ (List.mem_of_getElem? (i := 477) (by decide +kernel)), List.mem_append_right _ (List.mem_of_getElem? (i := 0) (by decide +kernel)), by decide +kernel, by decide +kernel, by decide +kernel, List.mem_append_right _ (List.mem_of_getElem? (i := 476) (by decide +kernel))⟩
theorem mwL_read : xMw mL_read hL_read 2 := ⟨List.mem_append_right _ (List.mem_of_getElem? (i := 489) (by decide +kernel)), List.mem_append_right _ (List.mem_of_getElem? (i := 0) (by decide +kernel)), by decide +kernel, by decide +kernel, by decide +kernel, List.mem_append_right _ (List.mem_of_getElem? (i := 488) (by decide +kernel))⟩
theorem mwL_about : xMw mL_about hL_about 3 := ⟨List.mem_append_right _ (List.mem_of_getElem? (i := 538) (by decide +kernel)), List.mem_append_right _ (List.mem_of_getElem? (i := 0) (by decide +kernel)), by decide +kernel, by decide +kernel, by decide +kernel, List.mem_append_right _ (List.mem_of_getElem? (i := 537) (by decide +kernel))⟩
theorem mwL_byteOf : xMw mL_byteOf hL_byteOf 4 := ⟨List.mem_append_right _ (List.mem_of_getElem? (i := 546) (by decide +kernel)), List.mem_append_right _ (List.mem_of_getElem? (i := 0) (by decide +kernel)), by decide +kernel, by decide +kernel, by decide +kernel, List.mem_append_right _ (List.mem_of_getElem? (i := 545) (by decide +kernel))⟩
theorem mwL_optionAt : xMw mL_optionAt hL_optionAt 4 := ⟨List.mem_append_right _ (List.mem_of_getElem? (i := 558) (by decide +kernel)), List.mem_append_right _ (List.mem_of_getElem? (i := 0) (by decide +kernel)), by decide +kernel, by decide +kernel, by decide +kernel, List.mem_append_right _ (List.mem_of_getElem? (i := 557) (by decide +kernel))⟩
theorem mwL_serve : xMw mL_serve hL_serve 3 := ⟨List.mem_append_right _ (List.mem_of_getElem? (i := 573) (by decide +kernel)), List.mem_append_right _ (List.mem_of_getElem? (i := 0) (by decide +kernel)), by decide +kernel, by decide +kernel, by decide +kernel, List.mem_append_right _ (List.mem_of_getElem? (i := 572) (by decide +kernel))⟩
theorem mwL_total : xMw mL_total hL_total 3 := ⟨List.mem_append_right _ (List.mem_of_getElem? (i := 705) (by decide +kernel)), List.mem_append_right _ (List.mem_of_getElem? (i := 0) (by decide +kernel)), by decide +kernel, by decide +kernel, by decide +kernel, List.mem_append_right _ (List.mem_of_getElem? (i := 704) (by decide +kernel))⟩
theorem mwL_resource : xMw mL_resource hL_resource 4 := ⟨List.mem_append_right _ (List.mem_of_getElem? (i := 712) (by decide +kernel)), List.mem_append_right _ (List.mem_of_getElem? (i := 0) (by decide +kernel)), by decide +kernel, by decide +kernel, by decide +kernel, List.mem_append_right _ (List.mem_of_getElem? (i := 711) (by decide +kernel))⟩
def R_law : String := "CoapDeskLaw"
def lw_P (b : Addr) (xs : List Int32) (args : Array Value) (s : State) : Prop := args = #[.ref b] ∧ s.IntsAt b xs ∧ xs.length ≤ 3584 ∧ (Jvm.Cond.and given_1 narrow_1).before args s = true
def lw_Q (_ : Array Value) (s : State) (o : Outcome) (t : State) : Prop := o = .returned (some (.int 1)) ∧ Framed s o t [] 601024 7293034
def lw_Z (below : List Frame) (a : Array Value) (s : State) : State → Prop := fun t => ∃ o, t.status = .running ∧ Ended t below o ∧ lw_Q a s o t
/-- the law's own end, with 1 on the stack, nothing written that was there before, its room as the claim has it -/
theorem lw_ret {p : Program} {l : Launch} {e : Env} {s : State} {m : MethodId} {below : List Frame} {meth : Method} {c : Code} {b : Nat} (hx : p.tables.exec = Jvm.exec) (hb : c.code = code) (hr : meth.sig.returnType = ret) (hlocks : meth.locks = false) {pc : Nat} {H : Heap} {ls : Array Slot} (hdg : decode code pc = .ok (.ireturn, 1)) : W p l e room_1 s m #[Value.ref b] below meth c H [] 601024 7293034 (lw_Z below #[Value.ref b] s) (F0 m pc ls [.int 1]) := by
  intro T hT X
  obtain ⟨fs, hret, hrun, hended, hW, hframe⟩ := X.leave (v := some (.int 1)) (hlocks := hlocks) (fun h => by rw [hr] at h; cases h)
  have hmeth' : T.vm.method? m = some meth := X.method'
  refine ⟨T.setFrames fs, ?_, .returned (some (.int 1)), hrun, hended, rfl, ⟨_, rfl⟩, hW, hframe⟩
  jvm_step X.here [X.here.top, hx, hb, hdg, hmeth', hr, ret, narrow_b1]
  (try refine ⟨rfl, ?_⟩); (try refine ⟨rfl, ?_⟩)
  first | (intro acts; rw [hret _ acts rfl rfl rfl]) | rw [hret _ _ rfl rfl rfl]
  exact Steps.refl _
/-- what holds at the law's entry: the machine, the code, the tables' words (any of lw_tbl by 'hts w (by decide +kernel)'), the script of L ints xs at the cell b, what the Statement gives of the start (any of its parts by flat_of_before) -/
def lw_At (p : Program) (s : State) (m : MethodId) (meth : Method) (c : Code) (b L : Nat) (xs : Nat → Int32) : Prop :=
  p.tables.exec = Jvm.exec ∧ c.code = code ∧ meth.sig.returnType = ret ∧ c.maxLocals = 7 ∧ s.vm.findClass R_law = some m.cls ∧ (∀ w ∈ lw_tbl, w.before #[Value.ref b] s = true) ∧ va_X b L xs s s.heap ∧ b < s.heap.size ∧ meth.locks = false ∧ (Jvm.Cond.and given_1 narrow_1).before #[Value.ref b] s = true
theorem lw_retR {p : Program} {l : Launch} {e : Env} {R : Room} {s : State} {m : MethodId} {below : List Frame} {meth : Method} {c : Code} {b : Nat} (hx : p.tables.exec = Jvm.exec) (hb : c.code = code) (hr : meth.sig.returnType = ret) (hlocks : meth.locks = false) {pc : Nat} {H : Heap} {ls : Array Slot} (hdg : decode code pc = .ok (.ireturn, 1)) : W p l e R s m #[Value.ref b] below meth c H [] 601024 7293034 (lw_Z below #[Value.ref b] s) (F0 m pc ls [.int 1]) := by
  intro T hT X
  obtain ⟨fs, hret, hrun, hended, hW, hframe⟩ := X.leave (v := some (.int 1)) (hlocks := hlocks) (fun h => by rw [hr] at h; cases h)
  have hmeth' : T.vm.method? m = some meth := X.method'
  refine ⟨T.setFrames fs, ?_, .returned (some (.int 1)), hrun, hended, rfl, ⟨_, rfl⟩, hW, hframe⟩
  jvm_step X.here [X.here.top, hx, hb, hdg, hmeth', hr, ret, narrow_b1]
  (try refine ⟨rfl, ?_⟩); (try refine ⟨rfl, ?_⟩)
  first | (intro acts; rw [hret _ acts rfl rfl rfl]) | rw [hret _ _ rfl rfl rfl]
  exact Steps.refl _
theorem stand_room {p : Program} {l : Launch} {e : Env} {R R' : Room} {s : State} {m : MethodId} {args : Array Value} {below : List Frame} {meth : Method} {c : Code} {T : State} {locs : List Loc} {cells slots : Nat} (X : Stand p l e R s m args below meth c T locs cells slots) (hf : R'.frames ≤ R.frames) (hl : R'.locals ≤ R.locals) (hc : R'.cells ≤ R.cells) (hs : R'.slots ≤ R.slots) : Stand p l e R' s m args below meth c T locs cells slots := by
  refine { X with room := ?_ }
  have h := X.room
  simp only [State.hasRoom, Bool.and_eq_true, decide_eq_true_eq] at h ⊢
  obtain ⟨⟨⟨⟨h1, h2, h3, h4, h5, h6⟩, h7⟩, h8⟩, h9⟩ := h
  exact ⟨⟨⟨⟨by omega, by omega, by omega, by omega, by omega, h6⟩, by omega⟩, by omega⟩, h9⟩
theorem W_room {p : Program} {l : Launch} {e : Env} {R R' : Room} {s : State} {m : MethodId} {args : Array Value} {below : List Frame} {meth : Method} {c : Code} {H : Heap} {locs : List Loc} {cells slots : Nat} {Q : State → Prop} {g : JFrame} (hf : R'.frames ≤ R.frames) (hl : R'.locals ≤ R.locals) (hc : R'.cells ≤ R.cells) (hs : R'.slots ≤ R.slots) (h : W p l e R' s m args below meth c H locs cells slots Q g) : W p l e R s m args below meth c H locs cells slots Q g := fun T hT X => h T hT (stand_room X hf hl hc hs)
