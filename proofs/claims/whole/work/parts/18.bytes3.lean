theorem ush_mod (x : Int) {i : Nat} (hi : i < 4) : zUsh x (8 * (i : Int)) % 256 = lowb x i := by
  have e : ((8 * i : Nat) : Int) = 8 * (i : Int) := by omega
  obtain ⟨n, hn, en⟩ : ∃ n : Nat, n < 2 ^ 32 ∧ Int32.ofInt x = nI n := ⟨(Int32.ofInt x).toBitVec.toNat, BitVec.isLt _, by
    rw [← Int32.toBitVec_inj]
    show _ = BitVec.ofNat 32 (Int32.ofInt x).toBitVec.toNat
    rw [BitVec.ofNat_toNat, BitVec.setWidth_eq]⟩
  have h3 : (Int32.ofInt x).toBitVec.toNat = (x % 4294967296).toNat := by
    rw [Int32.toBitVec_ofInt, BitVec.toNat_ofInt]; rfl
  have h2 : (Int32.ofInt x).toBitVec.toNat = n := by rw [en]; exact pk_tn hn
  have hs : ∀ k : Nat, k < 32 → (((nI k).toUInt32 &&& Int32.toUInt32 31).toBitVec % 32).toNat = k := by decide +kernel
  have h4 : Int32.ofInt (zUsh x (8 * (i : Int))) = nI (n / 2 ^ (8 * i)) := by
    rw [zUsh_of, en, ← e]
    have e5 : Int32.ofInt ((8 * i : Nat) : Int) = nI (8 * i) := Int32.ofInt_eq_ofNat
    rw [e5]
    exact pk_ushrN hn (nI (8 * i)) (8 * i) (hs _ (by omega))
  have h5 : (zUsh x (8 * (i : Int)) % 4294967296).toNat = n / 2 ^ (8 * i) := by
    have h6 : (Int32.ofInt (zUsh x (8 * (i : Int)))).toBitVec.toNat = (zUsh x (8 * (i : Int)) % 4294967296).toNat := by
      rw [Int32.toBitVec_ofInt, BitVec.toNat_ofInt]; rfl
    rw [← h6, h4]
    exact pk_tn (Nat.lt_of_le_of_lt (Nat.div_le_self _ _) hn)
  unfold lowb
  have e3 : (256 : Nat) ^ i = 2 ^ (8 * i) := by rw [Nat.pow_mul]
  rw [e3]
  rcases (by omega : i = 0 ∨ i = 1 ∨ i = 2 ∨ i = 3) with h | h | h | h <;> subst h <;> simp only [Nat.reduceMul, Nat.reducePow] at h5 ⊢ <;> omega
/-- the bytes of a number, the high ones first -/
def hib (x : Int) (n : Nat) : List Int := ((List.range n).map (lowb x)).reverse
def hibK (x : Int) (n k : Nat) : List Int := (((List.range n).drop k).map (lowb x)).reverse
theorem hibK_step (x : Int) {n k : Nat} (h : k < n) : hibK x n k = hibK x n (k + 1) ++ [lowb x k] := by
  unfold hibK
  rw [List.drop_eq_getElem_cons (by simpa using h)]
  simp
theorem hib_rng (x : Int) (n : Nat) : ∀ v ∈ hib x n, 0 ≤ v ∧ v < 256 := by
  intro v hv
  unfold hib at hv
  rw [List.mem_reverse] at hv
  obtain ⟨i, -, rfl⟩ := List.mem_map.mp hv
  exact lowb_rng x i
section XB3
variable {Γ : xG} {E : xE} {z : Nat} {T : xY} {I : xI} {N : xN} {b room lev : Nat} {xs : List Int}
theorem l_addHigh {x : Int} {n : Nat} (D : xD Γ E mX0_addHighFirst lev 0 0) (hn : n ≤ 4) (hfit : xs.length + n ≤ room) : ∀ (k : Nat) (I' : xI), k ≤ n → BAt T I' N b room (xs ++ hibK x n k) → (∀ a, a ≠ b → a ≠ b + 1 → I' a = I a) →
    V Γ E (xQ Γ E (BCh z T I N b room (xs ++ hib x n)) 0 0) z T I' N 0 0 4 (xlv [some (.inr (.inr b)), some (.inl x), none, some (.inl ((k : Int) - 1))]) []
  | 0, I', hk, hB, hfr => by
    refine V_run D [] 5 rfl trivial ?_
    refine V_lt D 52 rfl rfl (by omega) (fun c1 => ?_) (fun c1 => absurd c1 (by omega))
    refine V_vret D rfl rfl ⟨rfl, rfl, rfl, rfl, hfr, ?_⟩
    unfold hibK at hB
    unfold hib
    rwa [List.drop_zero] at hB
  | k + 1, I', hk, hB, hfr => by
    have hB0 := hB
    obtain ⟨hT, hT1, hN, hI, h5, h6, h7, h8⟩ := hB
    have hl : (xs ++ hibK x n (k + 1)).length = xs.length + (n - (k + 1)) := by unfold hibK; simp
    rw [hl] at hI
    have hlen : xlen T (b + 1) = room := by unfold xlen; rw [hT1]
    refine V_run D [] 5 rfl trivial ?_
    refine V_lt D 52 rfl rfl (by omega) (fun c1 => absurd c1 (by omega)) (fun c1 => ?_)
    refine V_run D [] 17 rfl ⟨⟨_, _, by rw [hN]; exact hT1⟩, hT, hT, trivial⟩ ?_
    rw [hI, hN, hlen]
    refine V_ige D 52 rfl rfl (by omega) (by omega) (fun c2 => absurd c2 (by omega)) (fun c2 => ?_)
    refine V_run D [4] 4 rfl ⟨hT, hT, ⟨room, by rw [hN]; exact hT1, by rw [hI]; omega, by rw [hI]; omega⟩, hT, hT, trivial⟩ ?_
    rw [hN, hI]
    generalize hv : zB (zB (zUsh x (8 * (((k + 1 : Nat) : Int) - 1)))) = v
    have e1 : xup I' (b + 1) (((xs.length + (n - (k + 1)) : Nat) : Int)).toNat v b 1 = ((xs.length + (n - (k + 1)) : Nat) : Int) := by rw [xup_ne (by omega), hI]
    rw [e1, Int.toNat_natCast]
    have e4 : ((k + 1 : Nat) : Int) - 1 + (-1) = (k : Int) - 1 := by omega
    rw [e4]
    refine V_loc [some (.inr (.inr b)), some (.inl x), none, some (.inl ((k : Int) - 1))] rfl ?_
    have e2 : v = sg (lowb x k) := by
      have e5 : ((k + 1 : Nat) : Int) - 1 = (k : Int) := by omega
      rw [← hv, zB_eq, zB_eq, e5, ush_mod x (by omega)]; have := lowb_rng x k; unfold sg; split <;> split <;> omega
    have hp := hB0.push (v := v) (w := lowb x k) (by rw [hl]; omega) (lowb_rng x k) e2
    rw [hl, List.append_assoc, ← hibK_step x (by omega)] at hp
    exact l_addHigh D hn hfit k _ (by omega) hp (fun a h1 h2 => by rw [push_frame h1 h2]; exact hfr a h1 h2)
theorem s_addHigh {x : Int} {n : Nat} (hB : BAt T I N b room xs) (hn : n ≤ 4) (hfit : xs.length + n ≤ room) : Spec mX0_addHighFirst 0 [.inr (.inr b), .inl x, .inl (n : Int)] z T I N 0 0 (BCh z T I N b room (xs ++ hib x n)) := by
  refine Spec_of okX0_addHighFirst (by decide) (by decide) (Nat.le_of_ble_eq_true rfl) fun Γ E D => ?_
  refine V_run D [4] 4 rfl trivial ?_
  refine V_loc [some (.inr (.inr b)), some (.inl x), none, some (.inl ((n : Int) - 1))] rfl ?_
  refine l_addHigh D hn hfit n I (Nat.le_refl _) ?_ (fun _ _ _ => rfl)
  have e : hibK x n n = [] := by unfold hibK; simp
  rw [e, List.append_nil]; exact hB
/-- n bytes of another row, from a place on -/
theorem BAt.part {b' room' : Nat} {ys : List Int} (hB : BAt T I N b room xs) (hB' : BAt T I N b' room' ys) {f n : Nat} (h1 : f + n ≤ ys.length) (h2 : xs.length + n ≤ room) :
    BAt T (xup (va_up I (b + 1) (va_cpy (I (b' + 1)) (I (b + 1)) f xs.length n)) b 1 ((xs.length : Int) + n)) N b room (xs ++ (ys.drop f).take n) := by
  obtain ⟨hT, hT1, hN, hI, h5, h6, h7, h8⟩ := hB
  obtain ⟨gT, gT1, gN, gI, g5, g6, g7, g8⟩ := hB'
  have hl : (xs ++ (ys.drop f).take n).length = xs.length + n := by simp; omega
  refine ⟨hT, hT1, hN, ?_, by omega, h6, ?_, ?_⟩
  · rw [xup_at, hl]; unfold va_up; rw [if_pos rfl]; simp
  · intro u hu
    rcases List.mem_append.mp hu with h | h
    · exact h7 u h
    · exact g7 u (List.mem_of_mem_drop (List.mem_of_mem_take h))
  · intro j hj
    rw [hl] at hj
    rw [xup_ne (by omega)]
    have e : va_up I (b + 1) (va_cpy (I (b' + 1)) (I (b + 1)) f xs.length n) (b + 1) = va_cpy (I (b' + 1)) (I (b + 1)) f xs.length n := by unfold va_up; rw [if_pos rfl]
    rw [e]
    unfold va_cpy
    by_cases hjl : j < xs.length
    · rw [if_neg (by omega), h8 j hjl]
      congr 1
      rw [List.getD_eq_getElem?_getD, List.getD_eq_getElem?_getD, List.getElem?_append_left hjl]
    · rw [if_pos (by omega), g8 _ (by omega)]
      congr 1
      rw [List.getD_eq_getElem?_getD, List.getD_eq_getElem?_getD, List.getElem?_append_right (by omega), List.getElem?_take_of_lt (by omega), List.getElem?_drop]
theorem part_frame {a c n f : Nat} {u : Int} {g : Nat → Int} (h1 : a ≠ b) (h2 : a ≠ b + 1) : xup (va_up I (b + 1) g) b 1 u a = I a := by rw [xup_ne h1]; unfold va_up; rw [if_neg h2]
/-- addPart: where it isn't all there, or there is no room, nothing comes -/
theorem s_addPart {b' room' : Nat} {ys : List Int} {f n : Int} (hB : BAt T I N b room xs) (hB' : BAt T I N b' room' ys) (hne : b ≠ b') (hf : xIn f) (hn : xIn n) :
    Spec mX0_addPart 1 [.inr (.inr b), .inr (.inr b'), .inl f, .inl n] z T I N 0 0 (BCh z T I N b room (if 0 ≤ f ∧ 0 ≤ n ∧ f + n ≤ ys.length ∧ xs.length + n ≤ room then xs ++ (ys.drop f.toNat).take n.toNat else xs)) := by
  have hB0 := hB
  have hB1 := hB'
  obtain ⟨hT, hT1, hN, hI, h5, h6, h7, h8⟩ := hB
  obtain ⟨gT, gT1, gN, gI, g5, g6, g7, g8⟩ := hB'
  refine Spec_of okX0_addPart (by decide) (by decide) (Nat.le_of_ble_eq_true rfl) fun Γ E D => ?_
  refine V_run D [] 1 rfl trivial ?_
  refine V_lt D 53 rfl rfl hf (fun c1 => ?_) (fun c1 => ?_)
  · exact V_vret D rfl rfl ⟨rfl, rfl, rfl, rfl, fun _ _ _ => rfl, by rw [if_neg (by omega)]; exact hB0⟩
  · refine V_run D [] 5 rfl trivial ?_
    refine V_le D 53 rfl rfl hn (fun c2 => ?_) (fun c2 => ?_)
    · refine V_vret D rfl rfl ⟨rfl, rfl, rfl, rfl, fun _ _ _ => rfl, ?_⟩
      split
      · rw [show n.toNat = 0 by omega, List.take_zero, List.append_nil]; exact hB0
      · exact hB0
    · refine V_run D [] 15 rfl ⟨gT, trivial⟩ ?_
      rw [gI]
      refine V_igt D 53 rfl rfl hn (by omega) (fun c3 => ?_) (fun c3 => ?_)
      · exact V_vret D rfl rfl ⟨rfl, rfl, rfl, rfl, fun _ _ _ => rfl, by rw [if_neg (by omega)]; exact hB0⟩
      · refine V_run D [] 20 rfl trivial ?_
        refine V_askV (av := [.inl n]) (st := []) D mwX0_hasRoom rfl lkX0_X0_hasRoom (s_hasRoom hB0 hn) hT rfl ⟨Nat.le_refl _, Nat.le_refl _⟩ ?_
        refine V_eq D 53 rfl rfl (by split <;> omega) (fun c4 => ?_) (fun c4 => ?_)
        · exact V_vret D rfl rfl ⟨rfl, rfl, rfl, rfl, fun _ _ _ => rfl, by rw [if_neg (by intro h; rw [if_pos (by omega)] at c4; omega)]; exact hB0⟩
        · have hroom : n ≤ (room : Int) - xs.length := by
            by_cases h : n ≤ (room : Int) - xs.length
            · exact h
            · rw [if_neg h] at c4; exact absurd rfl c4
          refine V_run D [] 40 rfl ⟨hT, hT, gT, trivial⟩ ?_
          rw [hI, hN, gN]
          refine V_copy (st := []) D rfl lkX0_arraycopy gT1 hT1 (by omega) (by omega) (by omega) (fun i hi => ?_) rfl ?_
          · rw [g8 _ (by omega)]
            exact sg_rng (g7 _ (getD_mem (by omega)))
          · refine V_run D [] 53 rfl ⟨hT, hT, trivial⟩ ?_
            have e1 : va_up I (b + 1) (va_cpy (I (b' + 1)) (I (b + 1)) f.toNat ((xs.length : Int)).toNat n.toNat) b 1 = (xs.length : Int) := by unfold va_up; rw [if_neg (by omega), hI]
            rw [e1, Int.toNat_natCast, if_pos (by omega)]
            have h9 := hB0.part hB1 (f := f.toNat) (n := n.toNat) (by omega) (by omega)
            rw [show ((n.toNat : Nat) : Int) = n by omega] at h9
            exact V_vret D rfl rfl ⟨rfl, rfl, rfl, rfl, fun a h1 h2 => part_frame (c := 0) (n := 0) (f := 0) h1 h2, h9⟩
theorem s_addAll {b' room' : Nat} {ys : List Int} (hB : BAt T I N b room xs) (hB' : BAt T I N b' room' ys) (hne : b ≠ b') :
    Spec mX0_addAll 2 [.inr (.inr b), .inr (.inr b')] z T I N 0 0 (BCh z T I N b room (if xs.length + ys.length ≤ room then xs ++ ys else xs)) := by
  have hB0 := hB
  have hB1 := hB'
  obtain ⟨hT, hT1, hN, hI, h5, h6, h7, h8⟩ := hB
  obtain ⟨gT, gT1, gN, gI, g5, g6, g7, g8⟩ := hB'
  refine Spec_of okX0_addAll (by decide) (by decide) (Nat.le_of_ble_eq_true rfl) fun Γ E D => ?_
  refine V_run D [] 7 rfl ⟨gT, trivial⟩ ?_
  rw [gI]
  refine V_callV (av := [.inr (.inr b'), .inl 0, .inl (ys.length : Int)]) (st := []) D mwX0_addPart rfl lkX0_X0_addPart (s_addPart hB0 hB1 hne (by omega) (by omega)) hT rfl ⟨Nat.le_refl _, Nat.le_refl _⟩ (fun r z' T' I' N' h => ?_)
  obtain ⟨rfl, rfl, rfl, rfl, hfr, hB2⟩ := h
  refine V_vret D rfl rfl ⟨rfl, rfl, rfl, rfl, hfr, ?_⟩
  by_cases h : xs.length + ys.length ≤ room
  · rw [if_pos h]
    rw [if_pos (by omega)] at hB2
    simpa using hB2
  · rw [if_neg h]
    rw [if_neg (by omega)] at hB2
    exact hB2
end XB3
