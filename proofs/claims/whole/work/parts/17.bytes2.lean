/-! loops: locals by a list -/
def xlv : List (Option xV) → xL
  | [], _ => none
  | o :: _, 0 => o
  | _ :: r, j + 1 => xlv r j
def xmk (lv : xL) : Nat → List (Option xV) → List (Option xV)
  | _, [] => []
  | k, none :: r => none :: xmk lv (k + 1) r
  | k, some _ :: r => lv k :: xmk lv (k + 1) r
theorem xmk_ok (lv : xL) : ∀ (l : List (Option xV)) (k : Nat), xmk lv k l = l → ∀ j v, xlv l j = some v → lv (k + j) = some v
  | [], _, _, _, _, h => by cases h
  | none :: r, k, hk, 0, v, h => by cases h
  | none :: r, k, hk, j + 1, v, h => by
    have := xmk_ok lv r (k + 1) (List.cons.inj hk).2 j v h
    rw [show k + (j + 1) = k + 1 + j by omega]; exact this
  | some w :: r, k, hk, 0, v, h => by
    rw [← h]; exact (List.cons.inj hk).1
  | some w :: r, k, hk, j + 1, v, h => by
    have := xmk_ok lv r (k + 1) (List.cons.inj hk).2 j v h
    rw [show k + (j + 1) = k + 1 + j by omega]; exact this
theorem V_loc {Γ : xG} {E : xE} {Q : State → Prop} {z : Nat} {T : xY} {I : xI} {N : xN} {ce sl pc : Nat} {lv : xL} {st : List xV} (l : List (Option xV)) (h : xmk lv 0 l = l) (k : V Γ E Q z T I N ce sl pc (xlv l) st) : V Γ E Q z T I N ce sl pc lv st :=
  V_lv (fun i v hi => by have := xmk_ok lv l 0 h i v hi; rwa [Nat.zero_add] at this) k
section XB2
variable {Γ : xG} {E : xE} {z : Nat} {T : xY} {I : xI} {N : xN} {b room lev : Nat} {xs : List Int}
theorem l_addLow {w : Int} {n : Nat} (D : xD Γ E mX0_addLowFirst lev 0 0) (hn : n ≤ 8) (hfit : xs.length + n ≤ room) : ∀ (d i : Nat) (I' : xI), i + d = n → BAt T I' N b room (xs ++ (List.range i).map (lowb w)) → (∀ a, a ≠ b → a ≠ b + 1 → I' a = I a) →
    V Γ E (xQ Γ E (BCh z T I N b room (xs ++ (List.range n).map (lowb w))) 0 0) z T I' N 0 0 3 (xlv [some (.inr (.inr b)), some (.inr (.inl w)), none, some (.inl (n : Int)), some (.inl (i : Int))]) []
  | 0, i, I', hi, hB, hfr => by
    obtain rfl : i = n := by omega
    refine V_run D [] 6 rfl trivial ?_
    refine V_ige D 55 rfl rfl (by omega) (by omega) (fun c1 => ?_) (fun c1 => absurd (Int.le_refl _) c1)
    exact V_vret D rfl rfl ⟨rfl, rfl, rfl, rfl, hfr, hB⟩
  | d + 1, i, I', hi, hB, hfr => by
    have hB0 := hB
    obtain ⟨hT, hT1, hN, hI, h5, h6, h7, h8⟩ := hB
    have hl : (xs ++ (List.range i).map (lowb w)).length = xs.length + i := by simp
    rw [hl] at hI
    have hlen : xlen T (b + 1) = room := by unfold xlen; rw [hT1]
    refine V_run D [] 6 rfl trivial ?_
    refine V_ige D 55 rfl rfl (by omega) (by omega) (fun c1 => absurd c1 (by omega)) (fun c1 => ?_)
    refine V_run D [] 18 rfl ⟨⟨_, _, by rw [hN]; exact hT1⟩, hT, hT, trivial⟩ ?_
    rw [hI, hN, hlen]
    refine V_ige D 55 rfl rfl (by omega) (by omega) (fun c2 => absurd c2 (by omega)) (fun c2 => ?_)
    refine V_run D [3] 3 rfl ⟨hT, hT, ⟨room, by rw [hN]; exact hT1, by rw [hI]; omega, by rw [hI]; omega⟩, hT, hT, trivial⟩ ?_
    rw [hN, hI]
    generalize hv : zB (zB (zLus w (8 * (i : Int)))) = v
    have e1 : xup I' (b + 1) (((xs.length + i : Nat) : Int)).toNat v b 1 = ((xs.length + i : Nat) : Int) := by rw [xup_ne (by omega), hI]
    rw [e1, Int.toNat_natCast]
    refine V_loc [some (.inr (.inr b)), some (.inr (.inl w)), none, some (.inl (n : Int)), some (.inl ((i + 1 : Nat) : Int))] rfl ?_
    have e2 : v = sg (lowb w i) := by rw [← hv, zB_eq, zB_eq, lus_mod w (by omega)]; have := lowb_rng w i; unfold sg; split <;> split <;> omega
    have hp := hB0.push (v := v) (w := lowb w i) (by rw [hl]; omega) (lowb_rng w i) e2
    rw [hl] at hp
    refine l_addLow D hn hfit d (i + 1) _ (by omega) ?_ (fun a h1 h2 => by rw [push_frame h1 h2]; exact hfr a h1 h2)
    rw [List.range_succ, List.map_append, ← List.append_assoc]
    exact hp
theorem s_addLow {w : Int} {n : Nat} (hB : BAt T I N b room xs) (hn : n ≤ 8) (hfit : xs.length + n ≤ room) : Spec mX0_addLowFirst 0 [.inr (.inr b), .inr (.inl w), .inl (n : Int)] z T I N 0 0 (BCh z T I N b room (xs ++ (List.range n).map (lowb w))) := by
  refine Spec_of okX0_addLowFirst (by decide) (by decide) (Nat.le_of_ble_eq_true rfl) fun Γ E D => ?_
  refine V_run D [3] 3 rfl trivial ?_
  refine V_loc [some (.inr (.inr b)), some (.inr (.inl w)), none, some (.inl (n : Int)), some (.inl ((0 : Nat) : Int))] rfl ?_
  exact l_addLow D hn hfit n 0 I (by omega) (by simpa using hB) (fun _ _ _ => rfl)
end XB2
