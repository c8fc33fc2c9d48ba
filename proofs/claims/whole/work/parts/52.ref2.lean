theorem OO.kept {I I' : xI} {y j : Nat} {os : List Opt} (h : OO I y j os) (hl : OL os) (hn : os.length ≤ 21) (hk : ∀ a k, Ob y j a k → I' a k = I a k) : OO I' y j os := by
  refine ⟨by rw [hk _ _ (Or.inl ⟨rfl, rfl⟩)]; exact h.1, fun k q => (h.2 k q).kept (hl k q).2.1 (hk _ _ ?_) (hk _ _ ?_) (fun i h1 h2 => hk _ _ ?_)⟩
  · exact Or.inr (Or.inl ⟨Or.inl rfl, by omega, by omega⟩)
  · exact Or.inr (Or.inl ⟨Or.inr rfl, by omega, by omega⟩)
  · exact Or.inr (Or.inr ⟨rfl, by omega, by omega⟩)
section XRef2
variable {Γ : xG} {E : xE} {z : Nat} {T : xY} {I : xI} {N : xN} {y m lev : Nat} {os : List Opt}
/-- a byte behind an option's value -/
theorem r_longer {p : Nat} {b : Int} (h : MdS T N y) (hm : m < 3) (hO : OO I y m os) (hL : OL os) (hn : os.length ≤ 21) (hp : p < os.length) (hv : (od os p).2.length < 400) : Spec mX10_longer 0 [.inr (.inr y), .inl ((21 * m + p : Nat) : Int), .inl b] z T I N 0 0 (xMd z T N fun r I' => r = none ∧ Fr (fun a k => Ob y m a k ∧ a ≠ y + 6) I I' ∧ OO I' y m (os.set p ((od os p).1, (od os p).2 ++ [b]))) := by
  obtain ⟨o1, o2, o3⟩ := hO.2 p hp
  refine Spec_of okX10_longer (by decide) (by decide) (Nat.le_of_ble_eq_true rfl) fun Γ E D => ?_
  have c8 : xAr T (N y 8) 1 ((21 * m + p : Nat) : Int) := h.a8 (by omega)
  refine V_run D [] 28 rfl ⟨c8, c8, h.1, by rw [Int.toNat_natCast, h.n8, o2]; exact h.a9 (by omega), c8, h.1, h.1, trivial⟩ ?_
  rw [h.n8, h.n9, Int.toNat_natCast, xup_ne (show y + 8 ≠ y + 9 by omega), o2, show (400 * ((21 * m + p : Nat) : Int) + ((od os p).2.length : Int)).toNat = 400 * (21 * m + p) + (od os p).2.length by omega]
  refine V_vret D rfl rfl ⟨rfl, rfl, rfl, rfl, fun a k q => ?_, ?_, fun k hk => ?_⟩
  · dsimp only [Ob] at q; (simp only [xup_ap, true_and, and_true, if_true, if_false]; repeat (first | rw [if_neg (by omega)] | rw [if_pos (by omega)]))
  · rw [List.length_set, ← hO.1]; (simp only [xup_ap, true_and, and_true, if_true, if_false]; repeat (first | rw [if_neg (by omega)] | rw [if_pos (by omega)]))
  · rw [List.length_set] at hk
    rw [od_set hp]
    by_cases e : k = p
    · subst e
      rw [if_pos rfl]
      refine ⟨?_, ?_, o3.push (fun j hj => ?_) ?_⟩
      · rw [← o1]; (simp only [xup_ap, true_and, and_true, if_true, if_false]; repeat (first | rw [if_neg (by omega)] | rw [if_pos (by omega)]))
      · rw [xup_ap, if_pos ⟨rfl, rfl⟩]; simp
      · (simp only [xup_ap, true_and, and_true, if_true, if_false]; repeat (first | rw [if_neg (by omega)] | rw [if_pos (by omega)]))
      · (simp only [xup_ap, true_and, and_true, if_true, if_false]; repeat (first | rw [if_neg (by omega)] | rw [if_pos (by omega)]))
    · rw [if_neg e]
      refine (hO.2 k hk).kept (hL k hk).2.1 ?_ ?_ (fun i h1 h2 => ?_)
      · (simp only [xup_ap, true_and, and_true, if_true, if_false]; repeat (first | rw [if_neg (by omega)] | rw [if_pos (by omega)]))
      · (simp only [xup_ap, true_and, and_true, if_true, if_false]; repeat (first | rw [if_neg (by omega)] | rw [if_pos (by omega)]))
      · (simp only [xup_ap, true_and, and_true, if_true, if_false]; repeat (first | rw [if_neg (by omega)] | rw [if_pos (by omega)]))
/-- how a value goes one place up, in place's inner loop -/
theorem r_place {n : Int} (h : MdS T N y) (hm : m < 3) (hO : OO I y m os) (hL : OL os) (hn : os.length ≤ 20) (hx : xIn n) : Spec mX10_place 0 [.inr (.inr y), .inl (m : Int), .inl n] z T I N 0 0 (xMd z T N fun r I' => r = some (.inl ((21 * m + ipos n os os.length : Nat) : Int)) ∧ Fr (Ob y m) I I' ∧ OO I' y m (inso (ipos n os os.length) (n, []) os)) := by
  have h6 := hO.1
  refine Spec_of okX10_place (by decide) (by decide) (Nat.le_of_ble_eq_true rfl) fun Γ E D => ?_
  refine V_run D [7] 7 rfl ⟨h.a6 (by omega), h.1, trivial⟩ ?_
  rw [h.n6, Int.toNat_natCast, hO.1]
  refine V_loc [some (.inr (.inr y)), some (.inl (m : Int)), some (.inl n), some (.inl (os.length : Int))] rfl ?_
  have fin : ∀ k, k ≤ os.length → k = ipos n os os.length → ∀ I1 : xI, Fr (fun a j => Ob y m a j ∧ a ≠ y + 6) I I1 → (∀ j, j < k → En I1 y (21 * m + j) (od os j)) → (∀ j, k ≤ j → j < os.length → En I1 y (21 * m + j + 1) (od os j)) →
      V Γ E (xQ Γ E (xMd z T N fun r I' => r = some (.inl ((21 * m + ipos n os os.length : Nat) : Int)) ∧ Fr (Ob y m) I I' ∧ OO I' y m (inso (ipos n os os.length) (n, []) os)) 0 0) z T I1 N 0 0 127 (xlv [some (.inr (.inr y)), some (.inl (m : Int)), some (.inl n), some (.inl (k : Int))]) [] := by
    intro k hk ek I1 f1 lo hi
    have e6 : I1 (y + 6) m = (os.length : Int) := by rw [f1 _ _ (fun q => q.2 rfl), h6]
    refine V_run D [] 167 rfl ⟨h.a8 (by omega), h.1, h.a7 (by omega), h.1, h.a6 (by omega), h.a6 (by omega), h.1, trivial⟩ ?_
    rw [h.n6, h.n7, h.n8, Int.toNat_natCast, e6, show (21 * (m : Int) + (k : Int)).toNat = 21 * m + k by omega, show (21 * (m : Int) + (k : Int)) = ((21 * m + k : Nat) : Int) by omega]
    refine V_iret D rfl rfl ⟨rfl, rfl, rfl, by rw [← ek], fun a j q => ?_, ?_, fun j hj => ?_⟩
    · have := f1 a j (fun r => q r.1)
      unfold Ob at q
      rw [← this]
      (simp only [xup_ap, true_and, and_true, if_true, if_false]; repeat (first | rw [if_neg (by omega)] | rw [if_pos (by omega)]))
    · rw [inso_len (by omega), xup_ap, if_neg (by omega), xup_ap, if_neg (by omega), xup_ap, if_pos ⟨rfl, rfl⟩]; omega
    · rw [inso_len (by omega)] at hj
      rw [inso_at (by omega), ← ek]
      by_cases c1 : j < k
      · rw [if_pos c1]
        exact (lo j c1).kept (hL j (by omega)).2.1 (by (simp only [xup_ap, true_and, and_true, if_true, if_false]; repeat (first | rw [if_neg (by omega)] | rw [if_pos (by omega)]))) (by (simp only [xup_ap, true_and, and_true, if_true, if_false]; repeat (first | rw [if_neg (by omega)] | rw [if_pos (by omega)]))) (fun i _ _ => by (simp only [xup_ap, true_and, and_true, if_true, if_false]; repeat (first | rw [if_neg (by omega)] | rw [if_pos (by omega)])))
      · rw [if_neg c1]
        by_cases c2 : j = k
        · rw [if_pos c2, c2]
          exact ⟨by rw [xup_ap, if_neg (by omega), xup_ap, if_pos ⟨rfl, rfl⟩], by rw [xup_ap, if_pos ⟨rfl, rfl⟩]; rfl, Rw.nil⟩
        · rw [if_neg c2]
          have := hi (j - 1) (by omega) (by omega)
          rw [show 21 * m + (j - 1) + 1 = 21 * m + j by omega] at this
          exact this.kept (hL (j - 1) (by omega)).2.1 (by (simp only [xup_ap, true_and, and_true, if_true, if_false]; repeat (first | rw [if_neg (by omega)] | rw [if_pos (by omega)]))) (by (simp only [xup_ap, true_and, and_true, if_true, if_false]; repeat (first | rw [if_neg (by omega)] | rw [if_pos (by omega)]))) (fun i _ _ => by (simp only [xup_ap, true_and, and_true, if_true, if_false]; repeat (first | rw [if_neg (by omega)] | rw [if_pos (by omega)])))
  have key : ∀ k, k ≤ os.length → ipos n os k = ipos n os os.length → ∀ I1 : xI, Fr (fun a j => Ob y m a j ∧ a ≠ y + 6) I I1 → (∀ j, j < k → En I1 y (21 * m + j) (od os j)) → (∀ j, k ≤ j → j < os.length → En I1 y (21 * m + j + 1) (od os j)) →
      V Γ E (xQ Γ E (xMd z T N fun r I' => r = some (.inl ((21 * m + ipos n os os.length : Nat) : Int)) ∧ Fr (Ob y m) I I' ∧ OO I' y m (inso (ipos n os os.length) (n, []) os)) 0 0) z T I1 N 0 0 7 (xlv [some (.inr (.inr y)), some (.inl (m : Int)), some (.inl n), some (.inl (k : Int))]) [] := by
    intro k
    induction k with
    | zero =>
      intro hk ek I1 f1 lo hi
      refine V_run D [] 8 rfl trivial ?_
      exact V_le D 127 rfl rfl (by omega) (fun _ => fin _ hk ek I1 f1 lo hi) (fun q => absurd q (by omega))
    | succ k ih =>
      intro hk ek I1 f1 lo hi
      obtain ⟨e7, e8, e9⟩ := lo k (by omega)
      obtain ⟨b1, b2, b3⟩ := hL k (by omega)
      refine V_run D [] 8 rfl trivial ?_
      refine V_le D 127 rfl rfl (by omega) (fun q => absurd q (by omega)) (fun _ => ?_)
      refine V_run D [] 25 rfl ⟨h.a7 (by omega), h.1, trivial⟩ ?_
      rw [h.n7, show (21 * (m : Int) + ((k + 1 : Nat) : Int) - 1).toNat = 21 * m + k by omega, e7]
      refine V_ile D 127 rfl rfl (by omega) hx (fun q1 => ?_) (fun q1 => ?_)
      · exact fin _ hk (by rw [← ek]; unfold ipos; rw [if_neg (by omega)]) I1 f1 lo hi
      · refine V_run D [71] 71 rfl ⟨h.a8 (by omega), h.a8 (by omega), h.1, h.1, h.a7 (by omega), h.a7 (by omega), h.1, h.1, trivial⟩ ?_
        rw [h.n7, h.n8, show (21 * (m : Int) + ((k + 1 : Nat) : Int) - 1).toNat = 21 * m + k by omega, show (21 * (m : Int) + ((k + 1 : Nat) : Int)).toNat = 21 * m + k + 1 by omega, show (21 * (m : Int) + ((k + 1 : Nat) : Int)) = ((21 * m + k + 1 : Nat) : Int) by omega, xup_ne (show y + 8 ≠ y + 7 by omega), e7, e8]
        generalize hJ : xup (xup I1 (y + 7) (21 * m + k + 1) (od os k).1) (y + 8) (21 * m + k + 1) ((od os k).2.length : Int) = J
        refine V_loc [some (.inr (.inr y)), some (.inl (m : Int)), some (.inl n), some (.inl ((k + 1 : Nat) : Int)), some (.inl ((21 * m + k + 1 : Nat) : Int)), some (.inl ((0 : Nat) : Int))] rfl ?_
        have j8 : J (y + 8) (21 * m + k + 1) = ((od os k).2.length : Int) := by rw [← hJ]; (simp only [xup_ap, true_and, and_true, if_true, if_false]; repeat (first | rw [if_neg (by omega)] | rw [if_pos (by omega)]))
        rw [← cpy_0 J (y + 9) (400 * (21 * m + k + 1)) (fun i => J (y + 9) (400 * (21 * m + k) + i))]
        refine xdn (P := fun i => V Γ E (xQ Γ E (xMd z T N fun r I' => r = some (.inl ((21 * m + ipos n os os.length : Nat) : Int)) ∧ Fr (Ob y m) I I' ∧ OO I' y m (inso (ipos n os os.length) (n, []) os)) 0 0) z T (cpy J (y + 9) (400 * (21 * m + k + 1)) (fun i => J (y + 9) (400 * (21 * m + k) + i)) i) N 0 0 71 (xlv [some (.inr (.inr y)), some (.inl (m : Int)), some (.inl n), some (.inl ((k + 1 : Nat) : Int)), some (.inl ((21 * m + k + 1 : Nat) : Int)), some (.inl (i : Int))]) []) (od os k).2.length ?_ (fun i hi1 ih1 => ?_)
        · refine V_run D [] 80 rfl ⟨h.a8 (by omega), h.1, trivial⟩ ?_
          rw [h.n8, Int.toNat_natCast, cpy_out (by omega), j8]
          refine V_ige D 121 rfl rfl (by omega) (by omega) (fun _ => ?_) (fun q => absurd q (by omega))
          refine V_run D [7] 7 rfl trivial ?_
          refine V_loc [some (.inr (.inr y)), some (.inl (m : Int)), some (.inl n), some (.inl (k : Int))] ?_ ?_
          · show [_, _, _, some (Sum.inl (((k + 1 : Nat) : Int) + -1))] = _
            rw [show ((k + 1 : Nat) : Int) + -1 = (k : Int) by omega]; rfl
          refine ih (by omega) (by rw [← ek]; exact (by rw [ipos, if_pos (by omega)])) _ (fun a j q => ?_) (fun j hj => ?_) (fun j hj1 hj2 => ?_)
          · rw [← f1 a j q]
            unfold Ob at q
            rw [cpy_out (by omega), ← hJ]
            (simp only [xup_ap, true_and, and_true, if_true, if_false]; repeat (first | rw [if_neg (by omega)] | rw [if_pos (by omega)]))
          · refine (lo j (by omega)).kept (hL j (by omega)).2.1 ?_ ?_ (fun i _ _ => ?_) <;> (rw [cpy_out (by omega), ← hJ]; (simp only [xup_ap, true_and, and_true, if_true, if_false]; repeat (first | rw [if_neg (by omega)] | rw [if_pos (by omega)])))
          · by_cases c : j = k
            · subst c
              refine ⟨by rw [cpy_out (by omega), ← hJ]; (simp only [xup_ap, true_and, and_true, if_true, if_false]; repeat (first | rw [if_neg (by omega)] | rw [if_pos (by omega)])), by rw [cpy_out (by omega), j8], fun i hi2 => ?_⟩
              rw [cpy_in hi2, ← e9 i hi2, ← hJ]
              (simp only [xup_ap, true_and, and_true, if_true, if_false]; repeat (first | rw [if_neg (by omega)] | rw [if_pos (by omega)]))
            · refine (hi j (by omega) hj2).kept (hL j hj2).2.1 ?_ ?_ (fun i _ _ => ?_) <;> (rw [cpy_out (by omega), ← hJ]; (simp only [xup_ap, true_and, and_true, if_true, if_false]; repeat (first | rw [if_neg (by omega)] | rw [if_pos (by omega)])))
        · refine V_run D [] 80 rfl ⟨h.a8 (by omega), h.1, trivial⟩ ?_
          rw [h.n8, Int.toNat_natCast, cpy_out (by omega), j8]
          refine V_ige D 121 rfl rfl (by omega) (by omega) (fun q => absurd q (by omega)) (fun _ => ?_)
          refine V_run D [71] 71 rfl ⟨h.a9 (by omega), h.a9 (by omega), h.1, h.1, trivial⟩ ?_
          rw [h.n9, show (400 * ((21 * m + k + 1 : Nat) : Int) + (i : Int)).toNat = 400 * (21 * m + k + 1) + i by omega, show (400 * ((21 * m + k + 1 : Nat) : Int) - 400 + (i : Int)).toNat = 400 * (21 * m + k) + i by omega, cpy_out (by omega)]
          have st := cpy_step J (y + 9) (400 * (21 * m + k + 1)) (fun i => J (y + 9) (400 * (21 * m + k) + i)) i
          rw [st]
          exact V_loc [some (.inr (.inr y)), some (.inl (m : Int)), some (.inl n), some (.inl ((k + 1 : Nat) : Int)), some (.inl ((21 * m + k + 1 : Nat) : Int)), some (.inl ((i + 1 : Nat) : Int))] rfl ih1
  exact key _ (Nat.le_refl _) rfl I Fr.rf hO.2 (fun j h1 h2 => absurd h1 (by omega))
end XRef2
