/-! the start of the law -/
section XStart
variable {T T' : xY} {I I' : xI} {N N' : xN} {m most d q : Nat} {g : Msg} {lat : Option Nat}
theorem MAt.mv (h : MAt T I N m most g lat) (hk : ∀ a, m ≤ a → a < m + 6 + 3 * most → T' a = T a ∧ I' a = I a ∧ N' a = N a) : MAt T' I' N' m most g lat := by
  obtain ⟨⟨a1, a2, a3, a4, a5, a6, a7, a8⟩, ⟨b1, b2, b3⟩, c1, c2, ⟨f, f1, f2, f3, f4⟩, l1⟩ := h
  have k0 := hk m (by omega) (by omega)
  have k5 := hk (m + 5) (by omega) (by omega)
  refine ⟨⟨by rw [k0.1]; exact a1, by rw [k0.2.2]; exact a2, by rw [k0.2.2]; exact a3, by rw [k0.2.2]; exact a4, by rw [k5.1]; exact a5, a6, by rw [k0.2.1]; exact a7, a8⟩, ⟨by rw [k0.2.1]; exact b1, by rw [k0.2.1]; exact b2, by rw [k0.2.1]; exact b3⟩, c1.mv (fun q h1 h2 => hk q (by omega) (by omega)), c2.mv (fun q h1 h2 => hk q (by omega) (by omega)), ⟨f, fun j hj => by rw [k5.2.2]; exact f1 j hj, f2, fun k hk1 => ?_, fun j hj => ?_⟩, ?_⟩
  · obtain ⟨n, v, h⟩ := f3 k hk1
    exact ⟨n, v, h.mv (fun a h1 h2 => hk a (by omega) (by omega))⟩
  · have := (f1 j (by omega)).1
    exact (f4 j hj).mv (fun a h1 h2 => hk a (by omega) (by omega))
  · cases lat with
    | none => show N' m 4 = 0; rw [k0.2.2]; exact l1
    | some l => exact ⟨l1.1, by rw [k0.2.2, k5.2.2]; exact l1.2⟩
theorem DkAt.mv0 (h : DkAt T I N d dk0) (hk : ∀ a, d ≤ a → a < d + 494 → T' a = T a ∧ I' a = I a ∧ N' a = N a) : DkAt T' I' N' d dk0 := by
  obtain ⟨⟨a1, a2, a3, a4, a5⟩, b1, ⟨⟨a, v, n, ⟨c1, c2, c3, c4, c5, c6, c7⟩, e1, e2, ⟨lat, e3⟩, e4⟩, ⟨g1, g2, g3⟩, p1⟩, mb, ms, ⟨n1, n2, n3⟩, m1, g', lat', m2⟩ := h
  have k0 := hk d (by omega) (by omega)
  have k3 := hk (d + 3) (by omega) (by omega)
  have k4 := hk (d + 4) (by omega) (by omega)
  have k83 := hk (d + 4 + 83) (by omega) (by omega)
  refine ⟨⟨by rw [k0.1]; exact a1, by rw [k0.2.2]; exact a2, by rw [k0.2.2]; exact a3, by rw [k0.2.2]; exact a4, by rw [k3.1]; exact a5⟩, b1.mv (fun q h1 h2 => hk q (by omega) (by omega)), ⟨⟨a, v, n, ⟨by rw [k4.1]; exact c1, by rw [k4.2.2]; exact c2, by rw [k4.2.2]; exact c3, by rw [k4.2.2]; exact c4, by rw [k4.2.2]; exact c5, by rw [k83.1]; exact c6, fun k hk1 => by rw [k83.2.2]; exact c7 k hk1⟩, by rw [k4.2.1]; exact e1, e2.mv0 (fun q h1 h2 => hk q (by omega) (by omega)), ⟨lat, e3.mv (fun q h1 h2 => hk q (by omega) (by omega))⟩, e4.mv (fun q h1 h2 => hk q (by omega) (by omega))⟩, ⟨by rw [k4.2.1]; exact g1, by rw [k4.2.1]; exact g2, by rw [k4.2.1]; exact g3⟩, fun k hk1 => (p1 k hk1).mv (fun q h1 h2 => hk q (by omega) (by omega))⟩, mb, ms, ⟨by rw [k0.2.2]; exact n1, by rw [k0.2.2]; exact n2, n3⟩, m1.mv (fun q h1 h2 => hk q (by omega) (by omega)), g', lat', m2.mv (fun q h1 h2 => hk q (by omega) (by omega))⟩
theorem MdAt.mv (h : MdAt T I N q dk0) (hk : ∀ a, q ≤ a → a < q + 24 → T' a = T a ∧ I' a = I a ∧ N' a = N a) : MdAt T' I' N' q dk0 := by
  have h' := h.keptO (I' := I') (N' := N') dk0_ok.1.1 (fun a h1 h2 => (hk a h1 h2).2.1) (hk q (by omega) (by omega)).2.2
  refine ⟨⟨by rw [(hk q (by omega) (by omega)).1]; exact h.1.1, fun e he => ⟨(h'.1.2 e he).1, ?_⟩⟩, h'.2⟩
  have hb : e.2.1 < 24 := (show ∀ e ∈ mda, e.2.1 < 24 by decide) e he
  rw [(hk _ (by omega) (by omega)).1]; exact (h.1.2 e he).2
end XStart
theorem xstr_in : ∀ e ∈ xTx, Cond.stringRef RX9 e.1 e.2 ∈ lw_tbl := by decide +kernel
theorem xstr_fl : ∀ e ∈ xTx, Cond.exactly (.string RX9 e.1) "java/lang/String" ∈ flatC narrow_1 := by decide +kernel
theorem xst_fl : Cond.isRef (.static Bundle.tN "UNASSIGNED_STACK" Bundle.steD) ∈ flatC narrow_1 ∧ Cond.isRef (.static Bundle.tN "SUPPRESSED_SENTINEL" Bundle.listD) ∈ flatC narrow_1 ∧ Cond.not (.castable "java/lang/IllegalStateException" "java/lang/IllegalArgumentException") ∈ flatC narrow_1 := by decide +kernel
theorem xst_in : Cond.laysStatic Bundle.tN "UNASSIGNED_STACK" Bundle.steD ∈ lw_tbl ∧ Cond.laysStatic Bundle.tN "SUPPRESSED_SENTINEL" Bundle.listD ∈ lw_tbl ∧ Cond.initialized Bundle.tN ∈ lw_tbl := by decide +kernel
theorem start_K {s : State} (hW : xW s) : ∃ E : xE, E.2.2 = s.heap.size ∧ xK E s := by
  have hc : ∀ c : Fin 11, ∃ p : ClassId × (Nat → Nat), u_Kn s (xRn c.val) (xTT c.val) (xNN c.val) p.1 p.2 := fun c => by
    obtain ⟨cC, iS, h⟩ := u_known (ws := xus c.val) (args := #[]) (fun w hw => hW.us c.isLt w hw) (fun w hw => hw) (hW.use (xnew_in c.val (List.mem_range.mpr c.isLt)).1 rfl)
    exact ⟨(cC, iS), h⟩
  have prim : ∀ t ∈ ([.byte, .int, .long] : List FieldType), ∃ cA : ClassId, ArrOfT s cA t ∧ s.vm.findClass ("[" ++ t.toString) = some cA := fun t ht => by
    obtain ⟨cA, kA, comp, h1, h2, h3⟩ := Cond.arrayClass_spec (hW.use (xarc_in t ht) rfl : (Cond.arrayClass t).before #[] s = true)
    exact ⟨cA, fun n z => ⟨fun k h => (by cases h), kA, h2, comp, h3⟩, h1⟩
  have refs : ∀ t ∈ ([RX2, RX5, RX6, RX3] : List String), ∃ cA : ClassId, ArrOfT s cA (.object t) ∧ va_RA s cA (.object t) := fun t ht => by
    obtain ⟨comp, cA, kA, h1, -, h2, h3, h4⟩ := Cond.arrayOver_spec (hW.use (xaro_in t ht) rfl : (Cond.arrayOver (.object t)).before #[] s = true)
    exact ⟨cA, fun n z => ⟨fun k h => (by cases h), kA, h2, comp, h3⟩, kA, comp, h2, h3, h1, h4⟩
  have ha : ∀ k : Fin 7, ∃ cA : ClassId, ArrOfT s cA (xat k.val) ∧ va_RA s cA (xat k.val) := fun k => by
    match k with
    | 0 => obtain ⟨cA, h1, h2⟩ := prim .byte (by decide); exact ⟨cA, h1, h2⟩
    | 1 => obtain ⟨cA, h1, h2⟩ := prim .int (by decide); exact ⟨cA, h1, h2⟩
    | 2 => obtain ⟨cA, h1, h2⟩ := prim .long (by decide); exact ⟨cA, h1, h2⟩
    | 3 => exact refs RX2 (by decide)
    | 4 => exact refs RX5 (by decide)
    | 5 => exact refs RX6 (by decide)
    | 6 => exact refs RX3 (by decide)
  obtain ⟨f, hf⟩ := Classical.axiomOfChoice hc
  obtain ⟨g, hg⟩ := Classical.axiomOfChoice ha
  refine ⟨((fun c => if h : c < 11 then (f ⟨c, h⟩).1 else (f ⟨0, by decide⟩).1, fun c => if h : c < 11 then (f ⟨c, h⟩).2 else (f ⟨0, by decide⟩).2), fun k => if h : k < 7 then g ⟨k, h⟩ else g ⟨0, by decide⟩, s.heap.size), rfl, fun c q hq => ?_, fun k q hq => ?_⟩
  · by_cases h : c < 11
    · rw [xcl_at h] at hq
      cases hq
      dsimp only
      rw [dif_pos h, dif_pos h]
      exact hf ⟨c, h⟩
    · rw [List.getElem?_eq_none (by show 11 ≤ c; omega)] at hq
      cases hq
  · by_cases h : k < 7
    · rw [xty7_at _ h] at hq
      cases hq
      dsimp only
      rw [dif_pos h]
      exact hg ⟨k, h⟩
    · rw [List.getElem?_eq_none (by show 7 ≤ k; omega)] at hq
      cases hq
set_option maxRecDepth 8000 in
theorem law_ns : ∀ e ∈ mL_law.2.2.2.2.2, xns e.2.1 = true := by decide +kernel
set_option maxRecDepth 8000 in
theorem law_go {Γ : xG} {E : xE} {L : Nat} {xs : Nat → Int32} {lv : xL} (D : xDL Γ E mL_law 11 601024 7293034) (hX : xSc Γ E L xs) (hE : (gs Γ).heap.size ≤ E.2.2) {d : Nat} (hd : 0 < d) {T : xY} {I : xI} {N : xN} : VL Γ E (lw_Z (gb Γ) (ga Γ) (gs Γ)) d T I N 0 0 0 lv [] := by
  refine VL_newO D.1 9 5 rfl rfl ckL_X9 (by decide) (by decide) ?_
  refine VL_run D [] 4 rfl trivial ?_
  refine VL_callI (av := []) (st := [.inr (.inr d)]) D.1 mwX9_init rfl lkL_X9_init hd (s_Desk_init hd up_at) rfl (by decide) (fun r z1 T1 I1 N1 P1 => ?_)
  obtain ⟨rfl, rfl, -, k1⟩ := P1
  refine VL_run D [] 8 rfl trivial ?_
  refine VL_newO D.1 10 32 rfl rfl ckL_X10 (by decide) (by decide) ?_
  refine VL_run D [] 12 rfl trivial ?_
  refine VL_callI (av := []) (st := [.inr (.inr (d + 494))]) D.1 mwX10_init rfl lkL_X10_init (by omega) (r_init (by omega) up_at up_at) rfl (by decide) (fun r z2 T2 I2 N2 P2 => ?_)
  obtain ⟨rfl, rfl, g2, m2⟩ := P2
  have k2 : DkAt T2 I2 N2 d dk0 := k1.mv0 (fun a h1 h2 => by
    have := g2 a (by omega)
    rw [up_ne (by omega), up_ne (by omega), up_ne (by omega)] at this
    exact this)
  refine VL_run D [] 17 rfl trivial ?_
  refine VL_newa (x := 1) D.1 2 rfl ⟨by decide, rfl⟩ (by omega) (by decide) ?_
  refine VL_run D [23] 23 rfl trivial ?_
  have hl := law_loop (d := d) (T := va_up T2 (d + 494 + 24) (some (.inl (2, (1 : Int).toNat)))) D hX hE 513 0 (d + 494 + 24 + 1) (va_up I2 (d + 494 + 24) (fun _ => 0)) (va_up N2 (d + 494 + 24) (fun _ => 0)) dk0 (Nat.zero_le _) (by obtain ⟨b, -, -, -, -, g5⟩ := hX; omega) ⟨k2.mv0 (fun a h1 h2 => ⟨up_ne (by omega), up_ne (by omega), up_ne (by omega)⟩), m2.mv (fun a h1 h2 => ⟨up_ne (by omega), up_ne (by omega), up_ne (by omega)⟩), up_at, dk0_ok⟩
  refine VL_wide (k := 519 + 0) (n := 419245 + 6 * 0) (by decide) (by decide) ?_
  refine VL_lv (fun j v hj => ?_) hl
  match j, hj with
  | 0, hj => cases hj
  | 1, hj => exact hj
  | 2, hj => exact hj
  | 3, hj => exact hj
  | 4, hj => exact hj
theorem whole_start {p : Program} {e : Env} {s : State} {m : MethodId} {below : List Frame} {meth : Method} {c : Code} (l : Launch) (hl0 : l.stackTraces = false) {b L : Nat} {xs : Nat → Int32} (hL : L ≤ 3584) (hname : meth.name = "law") (C0 : lw_At p s m meth c b L xs) : W p l e room_1 s m #[Value.ref b] below meth c s.heap [] 0 0 (lw_Z below #[Value.ref b] s) (entryFrame m ([Value.ref b] : List Value).toArray 7) := by
  obtain ⟨hx, hb, hr, hml, hown, hts, hX, hbl, hlocks, hgv⟩ := C0
  have hfl := flat_of_before _ hgv
  have hnr : ∀ w ∈ flatC narrow_1, w.before #[Value.ref b] s = true := fun w hw => hfl w (by show w ∈ flatC given_1 ++ flatC narrow_1; exact List.mem_append_right _ hw)
  have hW : xW s := fun w hw hk => xok_at hk (State.WarmedH.refl s) (hts w hw)
  obtain ⟨E, hE, hK⟩ := start_K hW
  have hA : ∀ a : Nat, a < s.heap.size → ¬ E.2.2 ≤ a := fun a ha => by rw [hE]; omega
  have hXX : xX E s s.heap := ⟨vx_Zqof (args := #[Value.ref b]) (hts _ xst_in.1) (hts _ xst_in.2.2) (hnr _ xst_fl.1) hA, vx_Zqof (args := #[Value.ref b]) (hts _ xst_in.2.1) (hts _ xst_in.2.2) (hnr _ xst_fl.2.1) hA⟩
  have hStr : xStr s := fun t ht => by
    obtain ⟨a, c9, cell, k9, h1, -⟩ := Cond.exactly_spec (hnr _ (xstr_fl t ht))
    exact ⟨a, vk_R.of (A := #[Value.ref b]) (hts _ (xstr_in t ht)) h1⟩
  have hCa : xCa s := va_Nc.of (hnr _ xst_fl.2.2)
  refine W_room (R' := xRm 11 601024 7293034) (by decide) (by decide) (by decide) (by decide) ?_
  have D : xDL (p, l, e, xRm 11 601024 7293034, s, m, #[Value.ref b], below, meth, c) E mL_law 11 601024 7293034 :=
    ⟨⟨⟨⟨hx, hb, hr, hml, hown, hlocks, hname⟩, okL_law, by decide, hK, hW, hXX, by rw [hE]; exact Nat.le_refl _⟩, rfl⟩, law_ns, hStr, hCa, hl0⟩
  have hl := lv_entry [Value.ref b] (n := 7) (by show 1 ≤ 7; decide)
  rw [lg_entry_eq]
  refine law_go (Γ := (p, l, e, xRm 11 601024 7293034, s, m, #[Value.ref b], below, meth, c)) (L := L) (xs := xs) (lv := fun _ => none) D ⟨b, rfl, hX, hbl, hA b hbl, hL⟩ (by rw [hE]; exact Nat.le_refl _) (d := s.heap.size) (by omega) (T := fun _ => none) (I := fun _ _ => 0) (N := fun _ _ => 0) s.heap [] _ ⟨rfl, by rw [hE]; exact Nat.le_refl _, by rw [hE]; omega, fun a => trivial⟩ va_S.rf ⟨⟨hl.1.trans hml.symm, hl.2.1, fun i v hi => by cases hi⟩, b, hl.2.2 (0, Value.ref b) (by exact List.mem_cons_self ..), rfl⟩
