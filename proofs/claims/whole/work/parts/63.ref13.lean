theorem zCmp_lt {x y : Int} : zCmp x y < 0 ↔ x < y := by
  unfold zCmp
  by_cases h1 : y < x
  · rw [if_pos h1]; omega
  · rw [if_neg h1]
    by_cases h2 : x = y
    · rw [if_pos h2]; omega
    · rw [if_neg h2]; omega
theorem any_snocT {os : List Opt} {i : Nat} (f : Opt → Bool) (h : i < os.length) : (os.take (i + 1)).any f = ((os.take i).any f || f (od os i)) := by rw [otake_snoc h, List.any_append]; simp
theorem cnt_snocT {os : List Opt} {i : Nat} (k : Int) (h : i < os.length) : cnt k (os.take (i + 1)) = cnt k (os.take i) + (if (od os i).1 = k then 1 else 0) := by
  unfold cnt; rw [otake_snoc h, List.countP_append]; simp [List.countP_cons]
theorem cnt_leT {os : List Opt} (k : Int) (i : Nat) : cnt k (os.take i) ≤ i := Nat.le_trans List.countP_le_length (by simp; omega)
section XRef13
variable {Γ : xG} {E : xE} {M : xM} {z : Nat} {T : xY} {I J : xI} {N : xN} {y m lev mc ms ce sl pc idx i p : Nat} {os : List Opt} {g : Msg} {x : Dk} {xs : List Int} {Q : State → Prop} {lv : xL} {q : Opt}
theorem lr_bad (D : xD Γ E mX10_isBad 1 0 0) (h : MdS T N y) (hO : OO I y 1 os) (hL : OL os) (hn : os.length ≤ 20) : ∀ (d i : Nat), i + d = os.length →
    V Γ E (xQ Γ E (xSame z T I N (some (.inl (b01 (hBad os))))) 0 0) z T I N 0 0 10 (xlv [some (.inr (.inr y)), some (.inl (cnt 5 (os.take i) : Int)), some (.inl (cnt 23 (os.take i) : Int)), some (.inl (b01 ((os.take i).any oBad))), some (.inl ((21 * 1 + i : Nat) : Int))]) []
  | 0, i, hi => by
    obtain rfl : i = os.length := by omega
    have l5 := cnt_leT (os := os) 5 os.length
    have l23 := cnt_leT (os := os) 23 os.length
    refine V_run D [] 21 rfl ⟨h.a6 (by omega), h.1, trivial⟩ ?_
    rw [h.n6, show ((1 : Int)).toNat = 1 from rfl, hO.1]
    refine V_ige D 195 rfl rfl (by omega) (by omega) (fun _ => ?_) (fun q => absurd q (by omega))
    rw [List.take_length] at l5 l23 ⊢
    have yes : hBad os = true → ∀ lv, V Γ E (xQ Γ E (xSame z T I N (some (.inl (b01 (hBad os))))) 0 0) z T I N 0 0 209 lv [] := fun hb lv => by
      rw [hb]
      refine V_run D [] 214 rfl trivial ?_
      exact V_zret D rfl rfl (Or.inr rfl) ⟨rfl, rfl, rfl, rfl, rfl⟩
    refine V_run D [] 196 rfl trivial ?_
    refine V_ne D 209 rfl rfl (b01_in _) (fun c1 => yes ?_ _) (fun c1 => ?_)
    · have : os.any oBad = true := by cases hh : os.any oBad <;> rw [hh] at c1 <;> simp [b01] at c1 ⊢
      unfold hBad; rw [this]; rfl
    have a0 : os.any oBad = false := by cases hh : os.any oBad <;> rw [hh] at c1 <;> simp [b01] at c1 ⊢
    refine V_run D [] 201 rfl trivial ?_
    refine V_igt D 209 rfl rfl (by omega) (by omega) (fun c2 => yes ?_ _) (fun c2 => ?_)
    · unfold hBad; rw [a0, decide_eq_true (by omega : 1 < cnt 5 os)]; rfl
    refine V_run D [] 206 rfl trivial ?_
    refine V_ile D 213 rfl rfl (by omega) (by omega) (fun c3 => ?_) (fun c3 => yes ?_ _)
    · have : hBad os = false := by unfold hBad; rw [a0, decide_eq_false (by omega : ¬ 1 < cnt 5 os), decide_eq_false (by omega : ¬ 1 < cnt 23 os)]; rfl
      rw [this]
      refine V_run D [] 214 rfl trivial ?_
      exact V_zret D rfl rfl (Or.inl rfl) ⟨rfl, rfl, rfl, rfl, rfl⟩
    · unfold hBad; rw [a0, decide_eq_true (by omega : 1 < cnt 23 os)]; simp
  | d + 1, i, hi => by
    have hE := hO.2 i (by omega)
    obtain ⟨o1, o2, o3⟩ := id hE
    obtain ⟨v1, v2, v3⟩ := hL i (by omega)
    have l5 := cnt_leT (os := os) 5 i
    have l23 := cnt_leT (os := os) 23 i
    have ih := lr_bad D h hO hL hn d (i + 1) (by omega)
    have e5 := cnt_snocT (os := os) 5 (by omega : i < os.length)
    have e23 := cnt_snocT (os := os) 23 (by omega : i < os.length)
    have ea := any_snocT (os := os) oBad (by omega : i < os.length)
    generalize hq : od os i = q at *
    generalize hc5 : cnt 5 (os.take i) = c5 at *
    generalize hc23 : cnt 23 (os.take i) = c23 at *
    generalize hA : (os.take i).any oBad = A at *
    refine V_run D [] 21 rfl ⟨h.a6 (by omega), h.1, trivial⟩ ?_
    rw [h.n6, show ((1 : Int)).toNat = 1 from rfl, hO.1]
    refine V_ige D 195 rfl rfl (by omega) (by omega) (fun q => absurd q (by omega)) (fun _ => ?_)
    rw [e5, e23, ea] at ih
    -- the flag goes up, or not
    have s188 : ∀ (b : Bool) (l3 : Int), (A || oBad q) = b → V Γ E (xQ Γ E (xSame z T I N (some (.inl (b01 (hBad os))))) 0 0) z T I N 0 0 188 (xlv [some (.inr (.inr y)), some (.inl ((c5 + (if q.1 = 5 then 1 else 0) : Nat) : Int)), some (.inl ((c23 + (if q.1 = 23 then 1 else 0) : Nat) : Int)), some (.inl l3), some (.inl ((21 * 1 + i : Nat) : Int)), some (.inl q.1)]) [.inl (b01 b)] := fun b l3 hb => by
      rw [hb] at ih
      refine V_run D [10] 10 rfl trivial ?_
      exact V_loc [some (.inr (.inr y)), some (.inl ((c5 + (if q.1 = 5 then 1 else 0) : Nat) : Int)), some (.inl ((c23 + (if q.1 = 23 then 1 else 0) : Nat) : Int)), some (.inl (b01 b)), some (.inl ((21 * 1 + (i + 1) : Nat) : Int))] rfl ih
    have s183 : ∀ l3 : Int, (A || oBad q) = true → V Γ E (xQ Γ E (xSame z T I N (some (.inl (b01 (hBad os))))) 0 0) z T I N 0 0 183 (xlv [some (.inr (.inr y)), some (.inl ((c5 + (if q.1 = 5 then 1 else 0) : Nat) : Int)), some (.inl ((c23 + (if q.1 = 23 then 1 else 0) : Nat) : Int)), some (.inl l3), some (.inl ((21 * 1 + i : Nat) : Int)), some (.inl q.1)]) [] := fun l3 hb => by
      refine V_run D [188] 188 rfl trivial ?_
      exact s188 true l3 hb
    have s187 : ∀ l3 : Int, (A || oBad q) = false → V Γ E (xQ Γ E (xSame z T I N (some (.inl (b01 (hBad os))))) 0 0) z T I N 0 0 187 (xlv [some (.inr (.inr y)), some (.inl ((c5 + (if q.1 = 5 then 1 else 0) : Nat) : Int)), some (.inl ((c23 + (if q.1 = 23 then 1 else 0) : Nat) : Int)), some (.inl l3), some (.inl ((21 * 1 + i : Nat) : Int)), some (.inl q.1)]) [] := fun l3 hb => by
      refine V_run D [188] 188 rfl trivial ?_
      exact s188 false l3 hb
    have s107 : ∀ l3 : Int, (A || oBad q) = true → V Γ E (xQ Γ E (xSame z T I N (some (.inl (b01 (hBad os))))) 0 0) z T I N 0 0 107 (xlv [some (.inr (.inr y)), some (.inl ((c5 + (if q.1 = 5 then 1 else 0) : Nat) : Int)), some (.inl ((c23 + (if q.1 = 23 then 1 else 0) : Nat) : Int)), some (.inl l3), some (.inl ((21 * 1 + i : Nat) : Int)), some (.inl q.1)]) [] := fun l3 hb => by
      refine V_run D [] 114 rfl trivial ?_
      refine V_ne D 183 rfl rfl (by omega) (fun _ => ?_) (fun q => absurd q (by decide))
      exact V_loc [some (.inr (.inr y)), some (.inl ((c5 + (if q.1 = 5 then 1 else 0) : Nat) : Int)), some (.inl ((c23 + (if q.1 = 23 then 1 else 0) : Nat) : Int)), some (.inl 1), some (.inl ((21 * 1 + i : Nat) : Int)), some (.inl q.1)] rfl (s183 1 hb)
    have s111 : ∀ l3 : Int, A = false → ¬ (q.1 % 2 = 1 ∧ q.1 ≠ 1 ∧ q.1 ≠ 5 ∧ q.1 ≠ 11 ∧ q.1 ≠ 15 ∧ q.1 ≠ 23) → V Γ E (xQ Γ E (xSame z T I N (some (.inl (b01 (hBad os))))) 0 0) z T I N 0 0 111 (xlv [some (.inr (.inr y)), some (.inl ((c5 + (if q.1 = 5 then 1 else 0) : Nat) : Int)), some (.inl ((c23 + (if q.1 = 23 then 1 else 0) : Nat) : Int)), some (.inl l3), some (.inl ((21 * 1 + i : Nat) : Int)), some (.inl q.1)]) [] := fun l3 hA0 hno => by
      have oB : (A || oBad q) = oBad q := by rw [hA0]; rfl
      refine V_run D [] 114 rfl trivial ?_
      refine V_ne D 183 rfl rfl (by omega) (fun q => absurd rfl q) (fun _ => ?_)
      refine V_loc [some (.inr (.inr y)), some (.inl ((c5 + (if q.1 = 5 then 1 else 0) : Nat) : Int)), some (.inl ((c23 + (if q.1 = 23 then 1 else 0) : Nat) : Int)), some (.inl 0), some (.inl ((21 * 1 + i : Nat) : Int)), some (.inl q.1)] rfl ?_
      have s165 : (q.1 = 23 → oBad q = false) → V Γ E (xQ Γ E (xSame z T I N (some (.inl (b01 (hBad os))))) 0 0) z T I N 0 0 165 (xlv [some (.inr (.inr y)), some (.inl ((c5 + (if q.1 = 5 then 1 else 0) : Nat) : Int)), some (.inl ((c23 + (if q.1 = 23 then 1 else 0) : Nat) : Int)), some (.inl 0), some (.inl ((21 * 1 + i : Nat) : Int)), some (.inl q.1)]) [] := fun h23 => by
        refine V_run D [] 168 rfl trivial ?_
        refine V_ine D 187 rfl rfl (by omega) (by omega) (fun c1 => s187 0 ?_) (fun c1 => ?_)
        · rw [oB]
          by_cases c23' : q.1 = 23
          · exact h23 c23'
          · unfold oBad; rw [if_neg c1, if_neg c23']
            by_cases c3 : q.1 = 5 ∨ q.1 = 11 ∨ q.1 = 15
            · rw [if_pos c3]
            · rw [if_neg c3]; exact decide_eq_false (by omega)
        · refine V_run D [] 180 rfl ⟨h.a8 (by omega), h.1, trivial⟩ ?_
          rw [h.n8, Int.toNat_natCast, o2]
          refine V_ile D 187 rfl rfl (by omega) (by omega) (fun c2 => s187 0 ?_) (fun c2 => s183 0 ?_)
          · rw [oB]; unfold oBad; rw [if_pos c1]; exact decide_eq_false (by omega)
          · rw [oB]; unfold oBad; rw [if_pos c1]; exact decide_eq_true (by omega)
      refine V_run D [] 121 rfl trivial ?_
      refine V_ine D 165 rfl rfl (by omega) (by omega) (fun c1 => s165 (fun q => absurd q c1)) (fun c1 => ?_)
      have ob : oBad q = decide (wn q.2 = -1 ∨ 1048575 < wn q.2 ∨ wn q.2 % 8 = 7) := by unfold oBad; rw [if_neg (by omega), if_pos c1]
      have hw := wn_rng v3
      have ask : Spec mX10_whole 0 [.inr (.inr y), .inl ((21 * 1 + i : Nat) : Int)] z T I N 0 0 (xSame z T I N (some (.inr (.inl (wn q.2))))) := r_whole h (by omega) hE v2 v3
      refine V_run D [] 127 rfl trivial ?_
      refine V_askV (av := [.inl ((21 * 1 + i : Nat) : Int)]) (st := []) D mwX10_whole rfl lkX10_X10_whole ask h.1 rfl ⟨Nat.le_refl _, Nat.le_refl _⟩ ?_
      refine V_run D [] 132 rfl ⟨⟨by constructor <;> omega, by decide⟩, trivial⟩ ?_
      refine V_lt D 183 rfl rfl (zCmp_in _ _) (fun c2 => s183 0 ?_) (fun c2 => ?_)
      · rw [zCmp_lt] at c2; rw [oB, ob]; exact decide_eq_true (by omega)
      rw [zCmp_lt] at c2
      refine V_run D [] 138 rfl trivial ?_
      refine V_askV (av := [.inl ((21 * 1 + i : Nat) : Int)]) (st := []) D mwX10_whole rfl lkX10_X10_whole ask h.1 rfl ⟨Nat.le_refl _, Nat.le_refl _⟩ ?_
      refine V_run D [] 145 rfl ⟨⟨by constructor <;> omega, by decide⟩, trivial⟩ ?_
      refine V_gt D 183 rfl rfl (zCmp_in _ _) (fun c3 => s183 0 ?_) (fun c3 => ?_)
      · rw [zCmp_gt] at c3; rw [oB, ob]; exact decide_eq_true (by omega)
      rw [zCmp_gt] at c3
      refine V_run D [] 151 rfl trivial ?_
      refine V_askV (av := [.inl ((21 * 1 + i : Nat) : Int)]) (st := []) D mwX10_whole rfl lkX10_X10_whole ask h.1 rfl ⟨Nat.le_refl _, Nat.le_refl _⟩ ?_
      refine V_run D [] 162 rfl ⟨⟨by constructor <;> omega, by decide⟩, ⟨by omega, by omega⟩, trivial⟩ ?_
      refine V_eq D 183 rfl rfl (zCmp_in _ _) (fun c4 => s183 0 ?_) (fun c4 => ?_)
      · rw [zCmp_0] at c4; rw [oB, ob]; exact decide_eq_true (by omega)
      rw [zCmp_0] at c4
      exact s165 (fun _ => by rw [ob]; exact decide_eq_false (by omega))
    have s62 : V Γ E (xQ Γ E (xSame z T I N (some (.inl (b01 (hBad os))))) 0 0) z T I N 0 0 62 (xlv [some (.inr (.inr y)), some (.inl ((c5 + (if q.1 = 5 then 1 else 0) : Nat) : Int)), some (.inl ((c23 + (if q.1 = 23 then 1 else 0) : Nat) : Int)), some (.inl (b01 A)), some (.inl ((21 * 1 + i : Nat) : Int)), some (.inl q.1)]) [] := by
      refine V_run D [] 63 rfl trivial ?_
      cases hAA : A with
      | true =>
        refine V_ne D 107 rfl rfl (b01_in _) (fun _ => s107 _ (by rw [hAA]; rfl)) (fun c => absurd c (by decide))
      | false =>
        refine V_ne D 107 rfl rfl (b01_in _) (fun c => absurd rfl c) (fun _ => ?_)
        refine V_run D [] 71 rfl ⟨⟨by omega, by omega⟩, trivial⟩ ?_
        refine V_ine D 111 rfl rfl (by omega) (by omega) (fun c => s111 _ hAA (by omega)) (fun c1 => ?_)
        refine V_run D [] 77 rfl trivial ?_
        refine V_ieq D 111 rfl rfl (by omega) (by omega) (fun c => s111 _ hAA (by omega)) (fun c2 => ?_)
        refine V_run D [] 83 rfl trivial ?_
        refine V_ieq D 111 rfl rfl (by omega) (by omega) (fun c => s111 _ hAA (by omega)) (fun c3 => ?_)
        refine V_run D [] 90 rfl trivial ?_
        refine V_ieq D 111 rfl rfl (by omega) (by omega) (fun c => s111 _ hAA (by omega)) (fun c4 => ?_)
        refine V_run D [] 97 rfl trivial ?_
        refine V_ieq D 111 rfl rfl (by omega) (by omega) (fun c => s111 _ hAA (by omega)) (fun c5 => ?_)
        refine V_run D [] 104 rfl trivial ?_
        refine V_ieq D 111 rfl rfl (by omega) (by omega) (fun c => s111 _ hAA (by omega)) (fun c6 => ?_)
        refine s107 _ ?_
        rw [hAA, Bool.false_or]
        unfold oBad
        rw [if_neg c2, if_neg c6, if_neg (by omega)]
        exact decide_eq_true c1
    have s47 : V Γ E (xQ Γ E (xSame z T I N (some (.inl (b01 (hBad os))))) 0 0) z T I N 0 0 47 (xlv [some (.inr (.inr y)), some (.inl ((c5 + (if q.1 = 5 then 1 else 0) : Nat) : Int)), some (.inl (c23 : Int)), some (.inl (b01 A)), some (.inl ((21 * 1 + i : Nat) : Int)), some (.inl q.1)]) [] := by
      refine V_run D [] 52 rfl trivial ?_
      refine V_ine D 59 rfl rfl (by omega) (by omega) (fun c => ?_) (fun c => ?_)
      · rw [if_neg c, Nat.add_zero] at s62
        refine V_run D [62] 62 rfl trivial ?_
        rw [show (c23 : Int) + 0 = (c23 : Int) by omega]
        exact V_loc [some (.inr (.inr y)), some (.inl ((c5 + (if q.1 = 5 then 1 else 0) : Nat) : Int)), some (.inl (c23 : Int)), some (.inl (b01 A)), some (.inl ((21 * 1 + i : Nat) : Int)), some (.inl q.1)] rfl s62
      · rw [if_pos c] at s62
        refine V_run D [62] 62 rfl trivial ?_
        exact V_loc [some (.inr (.inr y)), some (.inl ((c5 + (if q.1 = 5 then 1 else 0) : Nat) : Int)), some (.inl ((c23 + 1 : Nat) : Int)), some (.inl (b01 A)), some (.inl ((21 * 1 + i : Nat) : Int)), some (.inl q.1)] rfl s62
    refine V_run D [] 37 rfl ⟨h.a7 (by omega), h.1, trivial⟩ ?_
    rw [h.n7, Int.toNat_natCast, o1]
    refine V_ine D 44 rfl rfl (by omega) (by omega) (fun c => ?_) (fun c => ?_)
    · rw [if_neg c, Nat.add_zero] at s47
      refine V_run D [47] 47 rfl trivial ?_
      rw [show (c5 : Int) + 0 = (c5 : Int) by omega]
      exact V_loc [some (.inr (.inr y)), some (.inl (c5 : Int)), some (.inl (c23 : Int)), some (.inl (b01 A)), some (.inl ((21 * 1 + i : Nat) : Int)), some (.inl q.1)] rfl s47
    · rw [if_pos c] at s47
      refine V_run D [47] 47 rfl trivial ?_
      exact V_loc [some (.inr (.inr y)), some (.inl ((c5 + 1 : Nat) : Int)), some (.inl (c23 : Int)), some (.inl (b01 A)), some (.inl ((21 * 1 + i : Nat) : Int)), some (.inl q.1)] rfl s47
theorem r_isBad (h : MdS T N y) (hO : OO I y 1 os) (hL : OL os) (hn : os.length ≤ 20) : Spec mX10_isBad 1 [.inr (.inr y)] z T I N 0 0 (xSame z T I N (some (.inl (b01 (hBad os))))) := by
  refine Spec_of okX10_isBad (by decide) (by decide) (Nat.le_of_ble_eq_true rfl) fun Γ E D => ?_
  refine V_run D [10] 10 rfl trivial ?_
  exact V_loc [some (.inr (.inr y)), some (.inl (cnt 5 (os.take 0) : Int)), some (.inl (cnt 23 (os.take 0) : Int)), some (.inl (b01 ((os.take 0).any oBad))), some (.inl ((21 * 1 + 0 : Nat) : Int))] rfl (lr_bad D h hO hL hn _ 0 (Nat.zero_add _))
end XRef13
