/-! rows of bytes: CoapDesk$Bytes -/
def xSame (z : Nat) (T : xY) (I : xI) (N : xN) (r : Option xV) : xPo := fun r' z' T' I' N' => r' = r ∧ z' = z ∧ T' = T ∧ I' = I ∧ N' = N
section XS
variable {Γ : xG} {E : xE} {M M' : xM} {T : xY} {I : xI} {N : xN} {z : Nat} {ce sl pc lev lev' mc ms n idx : Nat} {Q : State → Prop} {lv : xL} {st : List xV} {av : List xV} {r : Option xV}
theorem V_askV (D : xD Γ E M lev mc ms) (hm : xMv M' n) (hf : xfe M pc = some (.invokevirtual idx, 3)) (hlk : Cond.methodLink (xRn M.2.2.2.2.1) idx M'.1 ∈ lw_tbl) {a : Nat} (hS : Spec M' lev' (.inr (.inr a) :: av) z T I N 0 0 (xSame z T I N r)) (hT : T a = some (.inr M'.2.2.2.2.1))
    (hr : (Nat.blt lev' lev && av.length.beq n && (xwd st).ble 8) = true) (hc : ce ≤ mc ∧ sl ≤ ms) (k : V Γ E Q z T I N ce sl (pc + 3) lv (r.toList ++ st)) : V Γ E Q z T I N ce sl pc lv (av.reverse ++ .inr (.inr a) :: st) :=
  V_callV D hm hf hlk hS hT hr hc (fun r' z' T' I' N' h => by obtain ⟨rfl, rfl, rfl, rfl, rfl⟩ := h; exact k)
theorem V_askS (D : xD Γ E M lev mc ms) (hm : xMs M' n) (hf : xfe M pc = some (.invokestatic idx, 3)) (hlk : Cond.methodLink (xRn M.2.2.2.2.1) idx M'.1 ∈ lw_tbl) (hS : Spec M' lev' av z T I N 0 0 (xSame z T I N r))
    (hr : (Nat.blt lev' lev && av.length.beq n && (xwd st).ble 8) = true) (hc : ce ≤ mc ∧ sl ≤ ms) (k : V Γ E Q z T I N ce sl (pc + 3) lv (r.toList ++ st)) : V Γ E Q z T I N ce sl pc lv (av.reverse ++ st) :=
  V_callS D hm hf hlk hS hr hc (fun r' z' T' I' N' h => by obtain ⟨rfl, rfl, rfl, rfl, rfl⟩ := h; exact k)
end XS
/-- at b a row of bytes with that room, and what it holds -/
def BAt (T : xY) (I : xI) (N : xN) (b room : Nat) (xs : List Int) : Prop :=
  T b = some (.inr 0) ∧ T (b + 1) = some (.inl (0, room)) ∧ N b 0 = b + 1 ∧ I b 1 = (xs.length : Int) ∧ xs.length ≤ room ∧ room ≤ 5000 ∧ (∀ v ∈ xs, 0 ≤ v ∧ v < 256) ∧ ∀ j, j < xs.length → I (b + 1) j = sg (xs.getD j 0)
theorem BAt.kept {T : xY} {I I' : xI} {N N' : xN} {b room : Nat} {xs : List Int} (h : BAt T I N b room xs) (h1 : I' b = I b) (h2 : I' (b + 1) = I (b + 1)) (h3 : N' b = N b) : BAt T I' N' b room xs := by
  obtain ⟨a1, a2, a3, a4, a5, a6, a7, a8⟩ := h
  exact ⟨a1, a2, by rw [h3]; exact a3, by rw [h1]; exact a4, a5, a6, a7, fun j hj => by rw [h2]; exact a8 j hj⟩
def BCh (z : Nat) (T : xY) (I : xI) (N : xN) (b room : Nat) (ys : List Int) : xPo := fun r z' T' I' N' => r = none ∧ z' = z ∧ T' = T ∧ N' = N ∧ (∀ a, a ≠ b → a ≠ b + 1 → I' a = I a) ∧ BAt T I' N b room ys
def bat (xs : List Int) (i : Int) : Int := if 0 ≤ i ∧ i < xs.length then xs.getD i.toNat 0 else -1
theorem getD_mem {xs : List Int} {j : Nat} (h : j < xs.length) : xs.getD j 0 ∈ xs := by
  rw [List.getD_eq_getElem?_getD, List.getElem?_eq_getElem h]; exact List.getElem_mem h
theorem bat_rng {xs : List Int} (h : ∀ v ∈ xs, 0 ≤ v ∧ v < 256) (i : Int) : -1 ≤ bat xs i ∧ bat xs i < 256 := by
  unfold bat
  split
  · rename_i h1
    have := h _ (getD_mem (xs := xs) (j := i.toNat) (by omega))
    omega
  · omega
section XB
variable {z : Nat} {T : xY} {I : xI} {N : xN} {b room : Nat} {xs : List Int}
theorem s_at {i : Int} (hB : BAt T I N b room xs) (hi : xIn i) : Spec mX0_at 0 [.inr (.inr b), .inl i] z T I N 0 0 (xSame z T I N (some (.inl (bat xs i)))) := by
  obtain ⟨hT, hT1, hN, hI, h5, h6, h7, h8⟩ := hB
  refine Spec_of okX0_at (by decide) (by decide) (Nat.le_of_ble_eq_true rfl) fun Γ E D => ?_
  refine V_run D [] 1 rfl trivial ?_
  refine V_lt D 25 rfl rfl hi (fun c1 => ?_) (fun c1 => ?_)
  · refine V_run D [] 26 rfl trivial ?_
    exact V_iret D rfl rfl ⟨by unfold bat; rw [if_neg (by omega)], rfl, rfl, rfl, rfl⟩
  · refine V_run D [] 9 rfl ⟨hT, trivial⟩ ?_
    rw [hI]
    refine V_ige D 25 rfl rfl hi (by omega) (fun c2 => ?_) (fun c2 => ?_)
    · refine V_run D [] 26 rfl trivial ?_
      exact V_iret D rfl rfl ⟨by unfold bat; rw [if_neg (by omega)], rfl, rfl, rfl, rfl⟩
    · refine V_run D [] 26 rfl ⟨by rw [hN]; exact ⟨room, hT1, by omega, by omega⟩, hT, trivial⟩ ?_
      rw [hN, h8 i.toNat (by omega), sg_and (h7 _ (getD_mem (by omega)))]
      exact V_iret D rfl rfl ⟨by unfold bat; rw [if_pos (by omega)], rfl, rfl, rfl, rfl⟩
theorem s_hasRoom {n : Int} (hB : BAt T I N b room xs) (hn : xIn n) : Spec mX0_hasRoom 0 [.inr (.inr b), .inl n] z T I N 0 0 (xSame z T I N (some (.inl (if n ≤ (room : Int) - xs.length then 1 else 0)))) := by
  obtain ⟨hT, hT1, hN, hI, h5, h6, h7, h8⟩ := hB
  refine Spec_of okX0_hasRoom (by decide) (by decide) (Nat.le_of_ble_eq_true rfl) fun Γ E D => ?_
  have hlen : xlen T (b + 1) = room := by unfold xlen; rw [hT1]
  refine V_run D [] 11 rfl ⟨hT, ⟨_, _, by rw [hN]; exact hT1⟩, hT, trivial⟩ ?_
  rw [hI, hN, hlen]
  refine V_igt D 18 rfl rfl hn (by omega) (fun c1 => ?_) (fun c1 => ?_)
  · refine V_run D [] 19 rfl trivial ?_
    exact V_zret D rfl rfl (Or.inl rfl) ⟨by rw [if_neg (by omega)], rfl, rfl, rfl, rfl⟩
  · refine V_run D [] 19 rfl trivial ?_
    exact V_zret D rfl rfl (Or.inr rfl) ⟨by rw [if_pos (by omega)], rfl, rfl, rfl, rfl⟩
theorem s_clear (hB : BAt T I N b room xs) : Spec mX0_clear 0 [.inr (.inr b)] z T I N 0 0 (BCh z T I N b room []) := by
  obtain ⟨hT, hT1, hN, hI, h5, h6, h7, h8⟩ := hB
  refine Spec_of okX0_clear (by decide) (by decide) (Nat.le_of_ble_eq_true rfl) fun Γ E D => ?_
  refine V_run D [] 5 rfl ⟨hT, trivial⟩ ?_
  exact V_vret D rfl rfl ⟨rfl, rfl, rfl, rfl, fun a h1 h2 => xup_ne h1, hT, hT1, hN, by rw [xup_at]; rfl, by simp, h6, (fun _ h => nomatch h), (fun _ h => nomatch h)⟩
theorem s_keepFirst {n : Int} (hB : BAt T I N b room xs) (hn : xIn n) : Spec mX0_keepFirst 0 [.inr (.inr b), .inl n] z T I N 0 0 (BCh z T I N b room (if 0 ≤ n then xs.take n.toNat else xs)) := by
  have hB0 := hB
  obtain ⟨hT, hT1, hN, hI, h5, h6, h7, h8⟩ := hB
  refine Spec_of okX0_keepFirst (by decide) (by decide) (Nat.le_of_ble_eq_true rfl) fun Γ E D => ?_
  refine V_run D [] 1 rfl trivial ?_
  refine V_lt D 17 rfl rfl hn (fun c1 => ?_) (fun c1 => ?_)
  · exact V_vret D rfl rfl ⟨rfl, rfl, rfl, rfl, fun a h1 h2 => rfl, by rw [if_neg (by omega)]; exact hB0⟩
  · rw [if_pos (by omega)]
    refine V_run D [] 9 rfl ⟨hT, trivial⟩ ?_
    rw [hI]
    refine V_ige D 17 rfl rfl hn (by omega) (fun c2 => ?_) (fun c2 => ?_)
    · exact V_vret D rfl rfl ⟨rfl, rfl, rfl, rfl, fun a h1 h2 => rfl, by rw [List.take_of_length_le (by omega)]; exact hB0⟩
    · refine V_run D [] 17 rfl ⟨hT, trivial⟩ ?_
      refine V_vret D rfl rfl ⟨rfl, rfl, rfl, rfl, fun a h1 h2 => xup_ne h1, hT, hT1, hN, ?_, ?_, h6, fun v hv => h7 v (List.mem_of_mem_take hv), fun j hj => ?_⟩
      · rw [xup_at, List.length_take]; unfold va_up; rw [if_pos rfl]; omega
      · rw [List.length_take]; omega
      · rw [List.length_take] at hj
        rw [xup_ne (by omega), h8 j (by omega)]
        congr 1
        rw [List.getD_eq_getElem?_getD, List.getD_eq_getElem?_getD, List.getElem?_take_of_lt (by omega)]
/-- one byte comes behind: as all the loops have it -/
theorem BAt.push (hB : BAt T I N b room xs) {v w : Int} (hlt : xs.length < room) (hw : 0 ≤ w ∧ w < 256) (hv : v = sg w) : BAt T (xup (xup I (b + 1) xs.length v) b 1 ((xs.length : Int) + 1)) N b room (xs ++ [w]) := by
  obtain ⟨hT, hT1, hN, hI, h5, h6, h7, h8⟩ := hB
  refine ⟨hT, hT1, hN, ?_, ?_, h6, ?_, ?_⟩
  · rw [xup_at, List.length_append]; unfold va_up; rw [if_pos rfl]; simp
  · rw [List.length_append]; simp; omega
  · intro u hu
    rcases List.mem_append.mp hu with h | h
    · exact h7 u h
    · rw [List.mem_singleton.mp h]; exact hw
  · intro j hj
    rw [List.length_append] at hj
    simp at hj
    rw [xup_ne (by omega), xup_at]
    unfold va_up
    by_cases hjl : j = xs.length
    · rw [if_pos hjl, hv, hjl]
      congr 1
      rw [List.getD_eq_getElem?_getD, List.getElem?_append_right (by omega)]
      simp
    · rw [if_neg hjl, h8 j (by omega)]
      congr 1
      rw [List.getD_eq_getElem?_getD, List.getD_eq_getElem?_getD, List.getElem?_append_left (by omega)]
theorem push_frame {a : Nat} {v : Int} {k : Nat} {u : Int} (h1 : a ≠ b) (h2 : a ≠ b + 1) : xup (xup I (b + 1) k v) b 1 u a = I a := by rw [xup_ne h1, xup_ne h2]
theorem s_add {x : Int} (hB : BAt T I N b room xs) : Spec mX0_add 0 [.inr (.inr b), .inl x] z T I N 0 0 (BCh z T I N b room (if xs.length < room then xs ++ [x % 256] else xs)) := by
  have hB0 := hB
  obtain ⟨hT, hT1, hN, hI, h5, h6, h7, h8⟩ := hB
  have hlen : xlen T (b + 1) = room := by unfold xlen; rw [hT1]
  refine Spec_of okX0_add (by decide) (by decide) (Nat.le_of_ble_eq_true rfl) fun Γ E D => ?_
  refine V_run D [] 9 rfl ⟨⟨_, _, by rw [hN]; exact hT1⟩, hT, hT, trivial⟩ ?_
  rw [hI, hN, hlen]
  refine V_ige D 33 rfl rfl (by omega) (by omega) (fun c1 => ?_) (fun c1 => ?_)
  · exact V_vret D rfl rfl ⟨rfl, rfl, rfl, rfl, fun a h1 h2 => rfl, by rw [if_neg (by omega)]; exact hB0⟩
  · refine V_run D [] 33 rfl ⟨hT, hT, ⟨room, by rw [hN]; exact hT1, by rw [hI]; omega, by rw [hI]; omega⟩, hT, hT, trivial⟩ ?_
    rw [hN, hI]
    have e1 : xup I (b + 1) ((xs.length : Int)).toNat (zB (zB x)) b 1 = (xs.length : Int) := by rw [xup_ne (by omega), hI]
    rw [e1, if_pos (by omega)]
    have e2 : zB (zB x) = sg (x % 256) := by rw [zB_eq, zB_eq]; unfold sg; split <;> split <;> omega
    exact V_vret D rfl rfl ⟨rfl, rfl, rfl, rfl, fun a h1 h2 => push_frame h1 h2, by rw [Int.toNat_natCast]; exact hB0.push (by omega) (by omega) e2⟩
end XB
