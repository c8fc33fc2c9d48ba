/-! rows of the machine under the world -/
theorem xup_ne {α : Type} {f : Nat → Nat → α} {a k : Nat} {v : α} {q : Nat} (h : q ≠ a) : xup f a k v q = f q := by unfold xup va_up; rw [if_neg h]
theorem xup_at {α : Type} {f : Nat → Nat → α} {a k : Nat} {v : α} : xup f a k v a = va_up (f a) k v := by unfold xup va_up; rw [if_pos rfl]
theorem xAt.kept {E : xE} {T : xY} {I I' : xI} {N N' : xN} {H H' : Heap} {a : Nat} (h : xAt E T I N H a) (hH : H'[a]? = H[a]?) (hI : I' a = I a) (hN : N' a = N a) : xAt E T I' N' H' a := by
  unfold xAt at h ⊢
  rw [hI, hN]
  cases hT : T a with
  | none => trivial
  | some t =>
    rw [hT] at h
    cases t with
    | inl q =>
      obtain ⟨k, n⟩ := q
      exact ⟨by rw [hH]; exact h.1, h.2⟩
    | inr c => exact ⟨h.1, h.2.1.kept hH, h.2.2⟩
theorem xR.put {E : xE} {z : Nat} {T : xY} {I I' : xI} {N N' : xN} {H H' : Heap} (h : xR E z T I N H) {a : Nat} (hs : H'.size = H.size) (ho : ∀ q : Nat, q ≠ a → H'[q]? = H[q]?) (hI : ∀ q : Nat, q ≠ a → I' q = I q) (hN : ∀ q : Nat, q ≠ a → N' q = N q) (ha : xAt E T I' N' H' a) : xR E z T I' N' H' := by
  refine ⟨hs.trans h.1, h.2.1, h.2.2.1, fun q => ?_⟩
  by_cases hq : q = a
  · rw [hq]; exact ha
  · exact (h.2.2.2 q).kept (ho q hq) (hI q hq) (hN q hq)
theorem xR.obj {E : xE} {z : Nat} {T : xY} {I : xI} {N : xN} {H : Heap} (h : xR E z T I N H) {a c : Nat} (hT : T a = some (.inr c)) : c < 11 ∧ t_OB a (E.1.1 c) (xNN c) (E.1.2 c) H (fun k => xfv (xfk c k) (I a k) (N a k)) ∧ E.2.2 ≤ a ∧ 0 < a := by
  have h1 := h.2.2.2 a
  unfold xAt at h1
  rw [hT] at h1
  exact ⟨h1.1, h1.2.1, h1.2.2, Nat.lt_of_lt_of_le h.2.2.1 h1.2.2⟩
theorem xR.arr {E : xE} {z : Nat} {T : xY} {I : xI} {N : xN} {H : Heap} (h : xR E z T I N H) {a k n : Nat} (hT : T a = some (.inl (k, n))) : H[a]? = some (arrV (E.2.1 k) n (fun j => xav k (I a j) (N a j))) ∧ n < 2147483648 ∧ k < 7 ∧ E.2.2 ≤ a ∧ 0 < a := by
  have h1 := h.2.2.2 a
  unfold xAt at h1
  rw [hT] at h1
  exact ⟨h1.1, h1.2.1, h1.2.2.2, h1.2.2.1, Nat.lt_of_lt_of_le h.2.2.1 h1.2.2.1⟩
theorem xidx {i : Int} {n : Nat} (h0 : 0 ≤ i) (h1 : i < n) (hn : n < 2147483648) : (Int32.ofInt i).toNatClampNeg = i.toNat ∧ i.toNat < n ∧ ¬ (Int32.ofInt i < 0 ∨ n ≤ (Int32.ofInt i).toNatClampNeg) := by
  obtain ⟨j, rfl⟩ := Int.eq_ofNat_of_zero_le h0
  have hj : j < n := by omega
  have e : Int32.ofInt (j : Int) = nI j := Int32.ofInt_eq_ofNat
  rw [e, nI_clamp (by omega)]
  refine ⟨by simp, by simpa using hj, ?_⟩
  have := nI_in (c := j) (N := n) hj (by omega)
  rwa [nI_clamp (by omega)] at this
theorem xfk0 {c k : Nat} (h : xfk c k = 0) : xty c k = .int := by
  unfold xfk at h
  split at h
  · assumption
  · cases h
  · cases h
theorem xfk2 {c k : Nat} (h : xfk c k = 2) : xty c k = .boolean := by
  unfold xfk at h
  split at h
  · cases h
  · assumption
  · cases h
theorem xfk_cases (c k : Nat) : xfk c k = 0 ∨ xfk c k = 1 ∨ xfk c k = 2 := by
  unfold xfk
  split
  · exact Or.inl rfl
  · exact Or.inr (Or.inr rfl)
  · exact Or.inr (Or.inl rfl)
theorem xfk1_all : ∀ c ∈ List.range 11, ∀ k ∈ List.range (xNN c), xfk c k = 1 → (xty c k).isReference = true := by decide +kernel
theorem xnar_ref {t : FieldType} (h : t.isReference = true) (a : Nat) : narrow t (xr a) = xr a ∧ fits t (xr a) = true := by
  unfold xr
  cases t <;> simp [FieldType.isReference] at h <;> split <;> exact ⟨rfl, rfl⟩
theorem xnar_bool {x : Int} (h : x = 0 ∨ x = 1) : narrow .boolean (.int (Int32.ofInt x)) = .int (Int32.ofInt x) ∧ fits .boolean (.int (Int32.ofInt x)) = true := by
  rcases h with rfl | rfl <;> decide
theorem xfit_of {c k : Nat} (hc : c < 11) (hk : k < xNN c) {z : Int} {a : Nat} (hz : xfk c k = 2 → z = 0 ∨ z = 1) : narrow (xty c k) (xfv (xfk c k) z a) = xfv (xfk c k) z a ∧ fits (xty c k) (xfv (xfk c k) z a) = true := by
  rcases xfk_cases c k with h | h | h
  · rw [h, xfk0 h]; exact ⟨rfl, rfl⟩
  · rw [h]
    exact xnar_ref (xfk1_all c (List.mem_range.mpr hc) k (List.mem_range.mpr hk) h) a
  · rw [h, xfk2 h]
    exact xnar_bool (hz h)
section XRows
variable {Γ : xG} {E : xE} {M : xM} {T : xY} {I : xI} {N : xN} {z : Nat} {H : Heap} {locs : List Loc} {ce sl pc : Nat} {Q : State → Prop} {ls : Array Slot} {rest : List Value}
theorem x_fld (C : xC Γ E M) {k c f : Nat} {b : Bool} (hf : (xfr M.2.2.2.2.1).lookup k = some (c, f, b)) : (if b then Cond.fieldLinkNest (xRn M.2.2.2.2.1) k (xTT c f).1 (xTT c f).2.1 (xTT c f).2.2.1 "CoapDesk" else Cond.fieldLink (xRn M.2.2.2.2.1) k (xTT c f).1 (xTT c f).2.1 (xTT c f).2.2.1).before (ga Γ) (gs Γ) = true ∧ c < 11 ∧ f < xNN c := by
  have h := xfr_in M.2.2.2.2.1 (List.mem_range.mpr C.2.2.1) (k, c, f, b) (xlook2 hf)
  refine ⟨C.2.2.2.2.1.use h.1 ?_, h.2⟩
  cases b <;> rfl
theorem x_getf (C : xC Γ E M) (hR : xR E z T I N H) {k c f : Nat} {b : Bool} {a : Nat} (hf : (xfr M.2.2.2.2.1).lookup k = some (c, f, b)) (hT : T a = some (.inr c)) (hd : decode M.2.1 pc = .ok (.getfield k, 3))
    (kk : W (gp Γ) (gl Γ) (ge Γ) (gR Γ) (gs Γ) (gm Γ) (ga Γ) (gb Γ) (gt Γ) (gc Γ) H locs ce sl Q (F0 (gm Γ) (pc + 3) ls (xfv (xfk c f) (I a f) (N a f) :: rest))) :
    W (gp Γ) (gl Γ) (ge Γ) (gR Γ) (gs Γ) (gm Γ) (ga Γ) (gb Γ) (gt Γ) (gc Γ) H locs ce sl Q (F0 (gm Γ) pc ls (xr a :: rest)) := by
  obtain ⟨⟨hx, hb, hr, hml, hown, hlocks, hname⟩, -, ho, hK, hW, hX, hz⟩ := id C
  obtain ⟨hw, hc, hfN⟩ := x_fld C hf
  obtain ⟨-, ⟨cell, q1, q2, q3, q4⟩, -, hpos⟩ := hR.obj hT
  obtain ⟨hS, hfc, kC, hkC, hkind⟩ := hK.cls hc
  obtain ⟨cf, kf, fi, fd, hi, hsl⟩ := hS f hfN
  have hst := (u_facts hfc hkC (u_lays (args := ga Γ) (hW.us hc) (fun w h => h) hfN) hi).1
  rw [xr_pos hpos]
  cases b
  · exact W.getf hx hb hown hw hi hst q1 (by rw [q3]; exact fun h => by cases h) (by rw [hsl]; exact q4 f hfN) rfl rfl hd kk
  · exact va_Wgetf hx hb hown hw hi hst q1 (by rw [q3]; exact fun h => by cases h) (by rw [hsl]; exact q4 f hfN) rfl rfl hd kk
theorem x_putf (C : xC Γ E M) (hR : xR E z T I N H) (hS0 : va_S (fun q => E.2.2 ≤ q) (gs Γ).heap H locs) {k c f : Nat} {b : Bool} {a : Nat} (hf : (xfr M.2.2.2.2.1).lookup k = some (c, f, b)) (hfin : (xTT c f).2.2.2 = false) (hT : T a = some (.inr c)) (hd : decode M.2.1 pc = .ok (.putfield k, 3)) {v : Int} {w : Nat} {I' : xI} {N' : xN}
    (hv : xfk c f = 2 → v = 0 ∨ v = 1) (hI : ∀ q, q ≠ a → I' q = I q) (hN : ∀ q, q ≠ a → N' q = N q) (hIa : ∀ j, j ≠ f → I' a j = I a j) (hNa : ∀ j, j ≠ f → N' a j = N a j) (hIf : xfk c f ≠ 1 → I' a f = v) (hNf : xfk c f = 1 → N' a f = w)
    (kk : ∀ (H' : Heap) (locs' : List Loc), xR E z T I' N' H' → va_S (fun q => E.2.2 ≤ q) (gs Γ).heap H' locs' → W (gp Γ) (gl Γ) (ge Γ) (gR Γ) (gs Γ) (gm Γ) (ga Γ) (gb Γ) (gt Γ) (gc Γ) H' locs' ce sl Q (F0 (gm Γ) (pc + 3) ls rest)) :
    W (gp Γ) (gl Γ) (ge Γ) (gR Γ) (gs Γ) (gm Γ) (ga Γ) (gb Γ) (gt Γ) (gc Γ) H locs ce sl Q (F0 (gm Γ) pc ls (xfv (xfk c f) v w :: xr a :: rest)) := by
  obtain ⟨⟨hx, hb, hr, hml, hown, hlocks, hname⟩, -, ho, hK, hW, hX, hz⟩ := id C
  obtain ⟨hw, hc, hfN⟩ := x_fld C hf
  obtain ⟨-, ⟨cell, q1, q2, q3, q4⟩, hA, hpos⟩ := hR.obj hT
  have hap := va_apart (own := xRn M.2.2.2.2.1) (args := ga Γ) (hW.us hc) (fun w h => h) (xty c) (xty_ok hc) (xnm_ok hc) hK (xcl_at hc)
  obtain ⟨hS, hfc, kC, hkC, hkind⟩ := hK.cls hc
  obtain ⟨cf, kf, fi, fd, hi, hsl⟩ := hS f hfN
  have hlay := hW.us (A := ga Γ) hc _ (u_in_lay hfN)
  unfold u_lay at hlay
  rw [if_neg (by rw [hfin]; decide)] at hlay
  have hst := (u_facts hfc hkC (Or.inl hlay) hi).1
  have h6 := u_store hfc hkC hkind hlay hi (xty_ok hc f hfN) (xfit_of (a := w) hc hfN hv).1 (xfit_of (a := w) hc hfN hv).2
  have fin : ∀ H' : Heap, H'[a]? = some (cell.setSlot fd.slot (xfv (xfk c f) v w)) → H'.size = H.size → (∀ q : Nat, q ≠ a → H'[q]? = H[q]?) → W (gp Γ) (gl Γ) (ge Γ) (gR Γ) (gs Γ) (gm Γ) (ga Γ) (gb Γ) (gt Γ) (gc Γ) H' (locs ++ [⟨a, fd.slot⟩]) ce sl Q (F0 (gm Γ) (pc + 3) ls rest) := by
    intro H' e1 e2 e3
    refine kk H' _ (hR.put e2 e3 hI hN ?_) (hS0.put e2 e3 hA)
    unfold xAt
    rw [hT]
    refine ⟨hc, t_OB.to (V := updV (fun k => xfv (xfk c k) (I a k) (N a k)) f (xfv (xfk c f) v w)) ⟨_, e1, q2, q3, ?_⟩ (fun j _ => ?_), hA⟩
    · rw [hsl]; exact t_set q4 hap hfN _
    · unfold updV
      by_cases hj : j = f
      · subst hj
        rw [if_pos rfl]
        by_cases h1 : xfk c j = 1
        · rw [h1, hNf h1]; rfl
        · rw [hIf h1]; unfold xfv; rw [if_neg h1, if_neg h1]
      · rw [if_neg hj, hIa j hj, hNa j hj]
  rw [xr_pos hpos]
  cases b
  · exact W.putK hx hb (f := fd) ⟨hown, hw, ⟨_, _, _, hi⟩, hst⟩ (by rw [q2]; exact h6) q1 q3 (by rw [hsl]; exact k2_hasslot (q4 f hfN)) rfl rfl hd fin
  · exact va_WputK hx hb hown hw hi hst (by rw [q2]; exact h6) q1 q3 (by rw [hsl]; exact k2_hasslot (q4 f hfN)) rfl rfl hd fin
theorem x_arr_put (hR : xR E z T I N H) (hS0 : va_S (fun q => E.2.2 ≤ q) (gs Γ).heap H locs) {a k n : Nat} {j i : Nat} {v : Value} (hT : T a = some (.inl (k, n))) {I' : xI} {N' : xN}
    (hI : ∀ q, q ≠ a → I' q = I q) (hN : ∀ q, q ≠ a → N' q = N q) (hv : ∀ q, xav k (I' a q) (N' a q) = if q = j then v else xav k (I a q) (N a q))
    {H' : Heap} (e1 : H'[a]? = some ((arrV (E.2.1 k) n (fun j => xav k (I a j) (N a j))).setSlot j v)) (e2 : H'.size = H.size) (e3 : ∀ q : Nat, q ≠ a → H'[q]? = H[q]?) :
    xR E z T I' N' H' ∧ va_S (fun q => E.2.2 ≤ q) (gs Γ).heap H' (locs ++ [⟨a, i⟩]) := by
  obtain ⟨q1, q2, q3, hA, hpos⟩ := hR.arr hT
  refine ⟨hR.put e2 e3 hI hN ?_, hS0.put e2 e3 hA⟩
  unfold xAt
  rw [hT]
  refine ⟨?_, q2, hA, q3⟩
  rw [e1, arrV_store]
  congr 2
  funext q
  rw [hv q]
  rfl
section
variable {p : Program} {l : Launch} {e : Env} {R : Room} {s : State} {m : MethodId} {args : Array Value} {below : List Frame} {meth : Method} {c : Code} {cells slots : Nat} {cc : ByteArray} {ls' : Array Slot}
theorem ws_istore_n (hexec : p.tables.exec = Jvm.exec) (hb : c.code = cc) {k : Fin 4} {x : Int32} (hdg : decode cc pc = .ok (.istore_n k, 1)) (e' : storeLocals ls k.val (.int x) = some ls')
    (kk : W p l e R s m args below meth c H locs cells slots Q (F0 m (pc + 1) ls' rest)) : W p l e R s m args below meth c H locs cells slots Q (F0 m pc ls (.int x :: rest)) := by
  intro T hT X
  obtain ⟨t, a, b⟩ := kk T hT X
  refine ⟨t, ?_, b⟩
  jvm_step X.here [X.here.top, ↓top_set X.here.top, hexec, hb, hdg, e']
  exact a
theorem ws_istore (hexec : p.tables.exec = Jvm.exec) (hb : c.code = cc) {k : Nat} {x : Int32} (hdg : decode cc pc = .ok (.istore k, 2)) (e' : storeLocals ls k (.int x) = some ls')
    (kk : W p l e R s m args below meth c H locs cells slots Q (F0 m (pc + 2) ls' rest)) : W p l e R s m args below meth c H locs cells slots Q (F0 m pc ls (.int x :: rest)) := by
  intro T hT X
  obtain ⟨t, a, b⟩ := kk T hT X
  refine ⟨t, ?_, b⟩
  jvm_step X.here [X.here.top, ↓top_set X.here.top, hexec, hb, hdg, e']
  exact a
theorem ws_lstore_n (hexec : p.tables.exec = Jvm.exec) (hb : c.code = cc) {k : Fin 4} {x : Int64} (hdg : decode cc pc = .ok (.lstore_n k, 1)) (e' : storeLocals ls k.val (.long x) = some ls')
    (kk : W p l e R s m args below meth c H locs cells slots Q (F0 m (pc + 1) ls' rest)) : W p l e R s m args below meth c H locs cells slots Q (F0 m pc ls (.long x :: rest)) := by
  intro T hT X
  obtain ⟨t, a, b⟩ := kk T hT X
  refine ⟨t, ?_, b⟩
  jvm_step X.here [X.here.top, ↓top_set X.here.top, hexec, hb, hdg, e']
  exact a
theorem ws_astore_n (hexec : p.tables.exec = Jvm.exec) (hb : c.code = cc) {k : Fin 4} {x : Nat} (hdg : decode cc pc = .ok (.astore_n k, 1)) (e' : storeLocals ls k.val (xr x) = some ls')
    (kk : W p l e R s m args below meth c H locs cells slots Q (F0 m (pc + 1) ls' rest)) : W p l e R s m args below meth c H locs cells slots Q (F0 m pc ls (xr x :: rest)) := by
  intro T hT X
  obtain ⟨t, a, b⟩ := kk T hT X
  refine ⟨t, ?_, b⟩
  by_cases hx : x = 0
  · subst hx
    rw [xr_0] at e' ⊢
    jvm_step X.here [X.here.top, ↓top_set X.here.top, hexec, hb, hdg, e', Value.isRef]
    exact a
  · rw [xr_pos (by omega)] at e' ⊢
    jvm_step X.here [X.here.top, ↓top_set X.here.top, hexec, hb, hdg, e', Value.isRef]
    exact a
theorem ws_astore (hexec : p.tables.exec = Jvm.exec) (hb : c.code = cc) {k : Nat} {x : Nat} (hdg : decode cc pc = .ok (.astore k, 2)) (e' : storeLocals ls k (xr x) = some ls')
    (kk : W p l e R s m args below meth c H locs cells slots Q (F0 m (pc + 2) ls' rest)) : W p l e R s m args below meth c H locs cells slots Q (F0 m pc ls (xr x :: rest)) := by
  intro T hT X
  obtain ⟨t, a, b⟩ := kk T hT X
  refine ⟨t, ?_, b⟩
  by_cases hx : x = 0
  · subst hx
    rw [xr_0] at e' ⊢
    jvm_step X.here [X.here.top, ↓top_set X.here.top, hexec, hb, hdg, e', Value.isRef]
    exact a
  · rw [xr_pos (by omega)] at e' ⊢
    jvm_step X.here [X.here.top, ↓top_set X.here.top, hexec, hb, hdg, e', Value.isRef]
    exact a
theorem ws_iinc (hexec : p.tables.exec = Jvm.exec) (hb : c.code = cc) {i : Nat} {n : Int} {x : Int32} (hdg : decode cc pc = .ok (.iinc i n, 3)) (hg : ls[i]? = some (.val (.int x))) (e' : storeLocals ls i (.int (x + Int32.ofInt n)) = some ls')
    (kk : W p l e R s m args below meth c H locs cells slots Q (F0 m (pc + 3) ls' rest)) : W p l e R s m args below meth c H locs cells slots Q (F0 m pc ls rest) := by
  intro T hT X
  obtain ⟨t, a, b⟩ := kk T hT X
  refine ⟨t, ?_, b⟩
  jvm_step X.here [X.here.top, ↓top_set X.here.top, hexec, hb, hdg, hg, e']
  exact a
theorem ws_aload_n (hexec : p.tables.exec = Jvm.exec) (hb : c.code = cc) {k : Fin 4} {x : Nat} (hdg : decode cc pc = .ok (.aload_n k, 1)) (hl : ls[k.val]? = some (.val (xr x)))
    (kk : W p l e R s m args below meth c H locs cells slots Q (F0 m (pc + 1) ls (xr x :: rest))) : W p l e R s m args below meth c H locs cells slots Q (F0 m pc ls rest) := by
  by_cases hx : x = 0
  · subst hx
    exact lv_aload_nN hexec hb hdg rfl hl kk
  · rw [xr_pos (by omega)] at hl kk
    exact lv_aload_n hexec hb hdg rfl hl kk
theorem ws_aload (hexec : p.tables.exec = Jvm.exec) (hb : c.code = cc) {k : Nat} {x : Nat} (hdg : decode cc pc = .ok (.aload k, 2)) (hl : ls[k]? = some (.val (xr x)))
    (kk : W p l e R s m args below meth c H locs cells slots Q (F0 m (pc + 2) ls (xr x :: rest))) : W p l e R s m args below meth c H locs cells slots Q (F0 m pc ls rest) := by
  by_cases hx : x = 0
  · subst hx
    exact lv_aloadN hexec hb hdg hl kk
  · rw [xr_pos (by omega)] at hl kk
    exact lv_aload hexec hb hdg hl kk
end
end XRows
