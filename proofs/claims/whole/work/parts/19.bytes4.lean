/-- a whole number's bytes, high ones first -/
def wfold (xs : List Int) : Int := xs.foldl (fun a v => 256 * a + v) 0
def wn (xs : List Int) : Int := if xs.length > 4 then -1 else wfold xs
theorem wfold_snoc (xs : List Int) (v : Int) : wfold (xs ++ [v]) = 256 * wfold xs + v := by unfold wfold; rw [List.foldl_append]; rfl
theorem take_snoc {xs : List Int} {i : Nat} (h : i < xs.length) : xs.take (i + 1) = xs.take i ++ [xs.getD i 0] := by
  rw [List.take_succ, List.getD_eq_getElem?_getD, List.getElem?_eq_getElem h]; rfl
theorem bat_in {xs : List Int} {i : Nat} (h : i < xs.length) : bat xs (i : Int) = xs.getD i 0 := by
  unfold bat; rw [if_pos (by omega), Int.toNat_natCast]
section XB4
variable {Γ : xG} {E : xE} {z : Nat} {T : xY} {I : xI} {N : xN} {b room lev : Nat} {xs : List Int}
theorem l_whole (D : xD Γ E mX0_wholeNumber 1 0 0) (hB : BAt T I N b room xs) (h4 : xs.length ≤ 4) : ∀ (d i : Nat), i + d = xs.length →
    V Γ E (xQ Γ E (xSame z T I N (some (.inr (.inl (wn xs))))) 0 0) z T I N 0 0 16 (xlv [some (.inr (.inr b)), some (.inr (.inl (wfold (xs.take i)))), none, some (.inl (i : Int))]) []
  | 0, i, hi => by
    have hB0 := hB
    obtain ⟨hT, hT1, hN, hI, h5, h6, h7, h8⟩ := hB
    obtain rfl : i = xs.length := by omega
    refine V_run D [] 21 rfl ⟨hT, trivial⟩ ?_
    rw [hI]
    refine V_ige D 43 rfl rfl (by omega) (by omega) (fun c1 => ?_) (fun c1 => absurd (Int.le_refl _) c1)
    refine V_run D [] 44 rfl trivial ?_
    exact V_lret D rfl rfl ⟨by unfold wn; rw [if_neg (by omega), List.take_length], rfl, rfl, rfl, rfl⟩
  | d + 1, i, hi => by
    have hB0 := hB
    obtain ⟨hT, hT1, hN, hI, h5, h6, h7, h8⟩ := hB
    refine V_run D [] 21 rfl ⟨hT, trivial⟩ ?_
    rw [hI]
    refine V_ige D 43 rfl rfl (by omega) (by omega) (fun c1 => absurd c1 (by omega)) (fun c1 => ?_)
    refine V_run D [] 31 rfl trivial ?_
    refine V_askV (av := [.inl (i : Int)]) (st := [.inr (.inl (wfold (xs.take i) * 256))]) D mwX0_at rfl lkX0_X0_at (s_at hB0 (by omega)) hT rfl ⟨Nat.le_refl _, Nat.le_refl _⟩ ?_
    have hb := bat_rng h7 (i : Int)
    refine V_run D [16] 16 rfl ⟨by constructor <;> omega, trivial⟩ ?_
    have e : wfold (xs.take i) * 256 + bat xs (i : Int) = wfold (xs.take (i + 1)) := by rw [take_snoc (by omega), wfold_snoc, bat_in (by omega)]; omega
    rw [e]
    refine V_loc [some (.inr (.inr b)), some (.inr (.inl (wfold (xs.take (i + 1))))), none, some (.inl ((i + 1 : Nat) : Int))] rfl ?_
    exact l_whole D hB0 h4 d (i + 1) (by omega)
theorem s_whole (hB : BAt T I N b room xs) : Spec mX0_wholeNumber 1 [.inr (.inr b)] z T I N 0 0 (xSame z T I N (some (.inr (.inl (wn xs))))) := by
  have hB0 := hB
  obtain ⟨hT, hT1, hN, hI, h5, h6, h7, h8⟩ := hB
  refine Spec_of okX0_wholeNumber (by decide) (by decide) (Nat.le_of_ble_eq_true rfl) fun Γ E D => ?_
  refine V_run D [] 5 rfl ⟨hT, trivial⟩ ?_
  rw [hI]
  refine V_ile D 12 rfl rfl (by omega) (by omega) (fun c1 => ?_) (fun c1 => ?_)
  · refine V_run D [16] 16 rfl trivial ?_
    refine V_loc [some (.inr (.inr b)), some (.inr (.inl (wfold (xs.take 0)))), none, some (.inl ((0 : Nat) : Int))] rfl ?_
    exact l_whole D hB0 (by omega) xs.length 0 (by omega)
  · refine V_run D [] 11 rfl trivial ?_
    exact V_lret D rfl rfl ⟨by unfold wn; rw [if_pos (by omega)], rfl, rfl, rfl, rfl⟩
theorem wfold_rng : ∀ (xs : List Int), (∀ v ∈ xs, 0 ≤ v ∧ v < 256) → xs.length ≤ 4 → 0 ≤ wfold xs ∧ wfold xs < 4294967296
  | [], _, _ => by unfold wfold; simp
  | [a], h, _ => by have := h a (by simp); unfold wfold; simp; omega
  | [a, b], h, _ => by have := h a (by simp); have := h b (by simp); unfold wfold; simp; omega
  | [a, b, c], h, _ => by have := h a (by simp); have := h b (by simp); have := h c (by simp); unfold wfold; simp; omega
  | [a, b, c, d], h, _ => by have := h a (by simp); have := h b (by simp); have := h c (by simp); have := h d (by simp); unfold wfold; simp; omega
  | a :: b :: c :: d :: e :: r, _, h => by simp at h
theorem wn_rng {xs : List Int} (h : ∀ v ∈ xs, 0 ≤ v ∧ v < 256) : -1 ≤ wn xs ∧ wn xs < 4294967296 := by
  unfold wn
  split
  · omega
  · have := wfold_rng xs h (by omega); omega
theorem s_isTag {t : Int} (hB : BAt T I N b room xs) (ht : xIn t) : Spec mX0_isTag 2 [.inr (.inr b), .inl t] z T I N 0 0 (xSame z T I N (some (.inl (if xs.length = 2 ∧ wfold xs = t then 1 else 0)))) := by
  have hB0 := hB
  obtain ⟨hT, hT1, hN, hI, h5, h6, h7, h8⟩ := hB
  refine Spec_of okX0_isTag (by decide) (by decide) (Nat.le_of_ble_eq_true rfl) fun Γ E D => ?_
  refine V_run D [] 5 rfl ⟨hT, trivial⟩ ?_
  rw [hI]
  refine V_ine D 22 rfl rfl (by omega) (by omega) (fun c1 => ?_) (fun c1 => ?_)
  · refine V_run D [] 23 rfl trivial ?_
    exact V_zret D rfl rfl (Or.inl rfl) ⟨by rw [if_neg (by omega)], rfl, rfl, rfl, rfl⟩
  · refine V_run D [] 9 rfl trivial ?_
    refine V_askV (av := []) (st := []) D mwX0_wholeNumber rfl lkX0_X0_wholeNumber (s_whole hB0) hT rfl ⟨Nat.le_refl _, Nat.le_refl _⟩ ?_
    have hw := wn_rng h7
    refine V_run D [] 15 rfl ⟨⟨by constructor <;> omega, by constructor <;> omega⟩, ht, trivial⟩ ?_
    have e : wn xs = wfold xs := by unfold wn; rw [if_neg (by omega)]
    rw [e]
    have hz : xIn (zCmp (wfold xs) t) := by unfold zCmp; split; omega; split <;> omega
    refine V_ne D 22 rfl rfl hz (fun c2 => ?_) (fun c2 => ?_)
    · refine V_run D [] 23 rfl trivial ?_
      refine V_zret D rfl rfl (Or.inl rfl) ⟨?_, rfl, rfl, rfl, rfl⟩
      rw [if_neg]
      intro h
      apply c2
      unfold zCmp
      rw [if_neg (by omega), if_pos h.2]
    · refine V_run D [] 23 rfl trivial ?_
      refine V_zret D rfl rfl (Or.inr rfl) ⟨?_, rfl, rfl, rfl, rfl⟩
      rw [if_pos]
      refine ⟨by omega, ?_⟩
      unfold zCmp at c2
      split at c2
      · omega
      · split at c2
        · assumption
        · omega
theorem l_same {b' room' : Nat} {ys : List Int} (D : xD Γ E mX0_isSameAs 1 0 0) (hB : BAt T I N b room xs) (hB' : BAt T I N b' room' ys) (hl : xs.length = ys.length) : ∀ (d i : Nat), i + d = xs.length → xs.take i = ys.take i →
    V Γ E (xQ Γ E (xSame z T I N (some (.inl (if xs = ys then 1 else 0)))) 0 0) z T I N 0 0 15 (xlv [some (.inr (.inr b)), some (.inr (.inr b')), some (.inl (i : Int))]) []
  | 0, i, hi, he => by
    have hB0 := hB
    obtain ⟨hT, hT1, hN, hI, h5, h6, h7, h8⟩ := hB
    obtain rfl : i = xs.length := by omega
    refine V_run D [] 20 rfl ⟨hT, trivial⟩ ?_
    rw [hI]
    refine V_ige D 44 rfl rfl (by omega) (by omega) (fun c1 => ?_) (fun c1 => absurd (Int.le_refl _) c1)
    refine V_run D [] 45 rfl trivial ?_
    refine V_zret D rfl rfl (Or.inr rfl) ⟨?_, rfl, rfl, rfl, rfl⟩
    rw [List.take_length, hl, List.take_length] at he
    rw [if_pos he]
  | d + 1, i, hi, he => by
    have hB0 := hB
    have hB1 := hB'
    obtain ⟨hT, hT1, hN, hI, h5, h6, h7, h8⟩ := hB
    obtain ⟨gT, gT1, gN, gI, g5, g6, g7, g8⟩ := hB'
    refine V_run D [] 20 rfl ⟨hT, trivial⟩ ?_
    rw [hI]
    refine V_ige D 44 rfl rfl (by omega) (by omega) (fun c1 => absurd c1 (by omega)) (fun c1 => ?_)
    refine V_run D [] 25 rfl trivial ?_
    refine V_askV (av := [.inl (i : Int)]) (st := []) D mwX0_at rfl lkX0_X0_at (s_at hB0 (by omega)) hT rfl ⟨Nat.le_refl _, Nat.le_refl _⟩ ?_
    refine V_run D [] 30 rfl trivial ?_
    refine V_askV (av := [.inl (i : Int)]) (st := [.inl (bat xs (i : Int))]) D mwX0_at rfl lkX0_X0_at (s_at hB1 (by omega)) gT rfl ⟨Nat.le_refl _, Nat.le_refl _⟩ ?_
    have hb := bat_rng h7 (i : Int)
    have hb2 := bat_rng g7 (i : Int)
    refine V_ieq D 38 rfl rfl (by omega) (by omega) (fun c2 => ?_) (fun c2 => ?_)
    · refine V_run D [15] 15 rfl trivial ?_
      refine V_loc [some (.inr (.inr b)), some (.inr (.inr b')), some (.inl ((i + 1 : Nat) : Int))] rfl ?_
      rw [bat_in (by omega), bat_in (by omega)] at c2
      exact l_same D hB0 hB1 hl d (i + 1) (by omega) (by rw [take_snoc (by omega), take_snoc (by omega), he, c2])
    · refine V_run D [] 37 rfl trivial ?_
      refine V_zret D rfl rfl (Or.inl rfl) ⟨?_, rfl, rfl, rfl, rfl⟩
      rw [if_neg]
      intro h
      apply c2
      rw [h]
theorem s_same {b' room' : Nat} {ys : List Int} (hB : BAt T I N b room xs) (hB' : BAt T I N b' room' ys) : Spec mX0_isSameAs 1 [.inr (.inr b), .inr (.inr b')] z T I N 0 0 (xSame z T I N (some (.inl (if xs = ys then 1 else 0)))) := by
  have hB0 := hB
  have hB1 := hB'
  obtain ⟨hT, hT1, hN, hI, h5, h6, h7, h8⟩ := hB
  obtain ⟨gT, gT1, gN, gI, g5, g6, g7, g8⟩ := hB'
  refine Spec_of okX0_isSameAs (by decide) (by decide) (Nat.le_of_ble_eq_true rfl) fun Γ E D => ?_
  refine V_run D [] 8 rfl ⟨gT, hT, trivial⟩ ?_
  rw [hI, gI]
  refine V_ieq D 13 rfl rfl (by omega) (by omega) (fun c1 => ?_) (fun c1 => ?_)
  · refine V_run D [15] 15 rfl trivial ?_
    refine V_loc [some (.inr (.inr b)), some (.inr (.inr b')), some (.inl ((0 : Nat) : Int))] rfl ?_
    exact l_same D hB0 hB1 (by omega) xs.length 0 (by omega) (by simp)
  · refine V_run D [] 12 rfl trivial ?_
    refine V_zret D rfl rfl (Or.inl rfl) ⟨?_, rfl, rfl, rfl, rfl⟩
    rw [if_neg]
    intro h
    apply c1
    rw [h]
/-- new Bytes(room): its row lies right behind it -/
theorem s_Bytes_init {room : Nat} (hr : room ≤ 5000) (hz : z = b + 1) (hb : 0 < b) (hT : T b = some (.inr 0)) (hI : I b 1 = 0) : Spec mX0_init 1 [.inr (.inr b), .inl (room : Int)] z T I N 1 room
    (fun r z' T' I' N' => r = none ∧ z' = b + 2 ∧ T' = va_up T (b + 1) (some (.inl (0, room))) ∧ I' = va_up I (b + 1) (fun _ => 0) ∧ N' = xup (va_up N (b + 1) (fun _ => 0)) b 0 (b + 1)) := by
  subst hz
  refine Spec_of okX0_init (by decide) (by decide) (Nat.le_of_ble_eq_true rfl) fun Γ E D => ?_
  refine V_run D [] 1 rfl trivial ?_
  refine V_obj D rfl lkX0_obj hb rfl ?_
  refine V_run D [] 6 rfl trivial ?_
  refine V_newa D 0 rfl ⟨by omega, rfl⟩ (by omega) (by omega) ?_
  rw [Int.toNat_natCast]
  have hT' : va_up T (b + 1) (some (.inl (0, room))) b = some (.inr 0) := by unfold va_up; rw [if_neg (by omega), hT]
  refine V_putF (c := 0) (f := 0) D rfl rfl rfl rfl rfl rfl hT' ?_
  refine V_wide (k := 1) (n := room) (by omega) (by omega) ?_
  exact V_vret D rfl rfl ⟨rfl, rfl, rfl, rfl, rfl⟩
end XB4
