section XRef11
variable {Γ : xG} {E : xE} {M : xM} {z : Nat} {T : xY} {I J : xI} {N : xN} {y m lev mc ms ce sl pc idx i p : Nat} {os : List Opt} {g : Msg} {x : Dk} {xs : List Int} {Q : State → Prop} {lv : xL} {q : Opt}
set_option maxRecDepth 8000 in
theorem r_fault (h : MdS T N y) (hH : HH I y xs) : Spec mX10_fault 1 [.inr (.inr y)] z T I N 0 0 (ftP z T N I y xs) := by
  have f0 : Fr (Fx y) I (xup I y 15 0) := fun a k q => by rw [xup_ap, if_neg (fun r => q (Or.inr r))]
  have hH0 := hH.fx f0
  have t0 : xup I y 15 0 y 15 = 0 := by rw [xup_ap, if_pos ⟨rfl, rfl⟩]
  obtain ⟨⟨h1, h2, h3⟩, h4⟩ := id hH0
  refine Spec_of okX10_fault (by decide) (by decide) (Nat.le_of_ble_eq_true rfl) fun Γ E D => ?_
  refine V_run D [] 10 rfl ⟨h.1, ⟨h.1, Or.inl rfl⟩, trivial⟩ ?_
  rw [h1]
  refine V_ige D 15 rfl rfl (by omega) (by omega) (fun c1 => ?_) (fun c1 => ?_)
  · have r0 := h4 0 (by omega)
    have r1 := h4 1 (by omega)
    have r2 := h4 2 (by omega)
    have r3 := h4 3 (by omega)
    rw [Nat.zero_add] at r0 r1 r2 r3
    have b0 := h3 _ (getD_mem (xs := xs) (j := 0) (by omega))
    have b1 := h3 _ (getD_mem (xs := xs) (j := 1) (by omega))
    have b2 := h3 _ (getD_mem (xs := xs) (j := 2) (by omega))
    have b3 := h3 _ (getD_mem (xs := xs) (j := 3) (by omega))
    have e6 : zShr (xs.getD 0 0) 6 = xs.getD 0 0 / 64 := zShr_nat (k := 6) (by omega) (by decide)
    have e4 : zShr (xs.getD 0 0) 4 = xs.getD 0 0 / 16 := zShr_nat (k := 4) (by omega) (by decide)
    have e3 : zAnd (xs.getD 0 0 / 16) 3 = xs.getD 0 0 / 16 % 4 := zAndM (xs.getD 0 0 / 16) 2 3 (by omega) (by decide)
    have e15 : zAnd (xs.getD 0 0) 15 = xs.getD 0 0 % 16 := zAndM (xs.getD 0 0) 4 15 (by omega) (by decide)
    refine V_run D [] 25 rfl ⟨h.a12 (by omega), h.1, trivial⟩ ?_
    rw [h.n12, show ((0 : Int)).toNat = 0 from rfl, r0, e6]
    refine V_ieq D 30 rfl rfl (by omega) (by omega) (fun c2 => ?_) (fun c2 => ?_)
    · have bad : xs.getD 0 0 % 16 > 8 ∨ 4 + xs.getD 0 0 % 16 > xs.length → ∀ lv, V Γ E (xQ Γ E (ftP z T N I y xs) 0 0) z T (xup I y 15 0) N 0 0 56 lv [] := fun hc lv => by
        refine V_run D [] 57 rfl trivial ?_
        refine V_iret D rfl rfl (ftP.bad ?_ (by omega) f0 (Or.inl t0))
        unfold rd; rw [if_neg (by omega), if_neg (by omega), if_pos hc]
      refine V_run D [] 43 rfl ⟨h.a12 (by omega), h.1, trivial⟩ ?_
      rw [h.n12, show ((0 : Int)).toNat = 0 from rfl, r0, e15]
      refine V_igt D 56 rfl rfl (by omega) (by omega) (fun c3 => bad (by omega) _) (fun c3 => ?_)
      refine V_run D [] 53 rfl ⟨h.1, trivial⟩ ?_
      rw [h1]
      refine V_ile D 58 rfl rfl (by omega) (by omega) (fun c4 => ?_) (fun c4 => bad (by omega) _)
      obtain ⟨n, hn⟩ : ∃ n : Nat, xs.getD 0 0 % 16 = (n : Int) := ⟨(xs.getD 0 0 % 16).toNat, by omega⟩
      refine V_run D [] 93 rfl ⟨h.a12 (by omega), h.1, h.a12 (by omega), h.1, h.a12 (by omega), h.1, h.a12 (by omega), h.1, trivial⟩ ?_
      rw [h.n12, show ((0 : Int)).toNat = 0 from rfl, show ((1 : Int)).toNat = 1 from rfl, show ((2 : Int)).toNat = 2 from rfl, show ((3 : Int)).toNat = 3 from rfl, r0, r1, r2, r3, e4, e3, hn]
      refine V_mdV (av := [.inl ((1 : Nat) : Int), .inl (xs.getD 0 0 / 16 % 4), .inl (xs.getD 1 0), .inl (256 * xs.getD 2 0 + xs.getD 3 0)]) (st := []) D mwX10_begins rfl lkX10_X10_begins (r_begins h (by omega)) h.1 rfl ⟨Nat.le_refl _, Nat.le_refl _⟩ (fun r J0 P0 => ?_)
      obtain ⟨rfl, rfl⟩ := P0
      refine V_run D [105] 105 rfl ⟨h.a4 (by omega), h.1, trivial⟩ ?_
      rw [h.n4, show ((1 : Int)).toNat = 1 from rfl]
      generalize hJ1 : xup (bgI (xup I y 15 0) y 1 (xs.getD 0 0 / 16 % 4) (xs.getD 1 0) (256 * xs.getD 2 0 + xs.getD 3 0)) (y + 4) 1 (n : Int) = J1
      have j12 : ∀ k, J1 (y + 12) k = xup I y 15 0 (y + 12) k := fun k => by rw [← hJ1]; unfold bgI; (simp only [xup_ap, true_and, and_true, if_true, if_false]; repeat (first | rw [if_neg (by omega)] | rw [if_pos (by omega)]))
      rw [← cpy_0 J1 (y + 5) 8 (fun k => J1 (y + 12) (4 + k))]
      refine V_loc [some (.inr (.inr y)), some (.inl (n : Int)), some (.inl ((0 : Nat) : Int))] rfl ?_
      refine xdn (P := fun k => V Γ E (xQ Γ E (ftP z T N I y xs) 0 0) z T (cpy J1 (y + 5) 8 (fun k => J1 (y + 12) (4 + k)) k) N 0 0 105 (xlv [some (.inr (.inr y)), some (.inl (n : Int)), some (.inl (k : Int))]) []) n ?_ (fun k hk ih => ?_)
      · refine V_run D [] 107 rfl trivial ?_
        refine V_ige D 133 rfl rfl (by omega) (by omega) (fun _ => ?_) (fun q => absurd q (by omega))
        refine V_run D [139] 139 rfl trivial ?_
        rw [show (4 : Int) + (n : Int) = ((4 + n : Nat) : Int) by omega]
        refine V_loc [some (.inr (.inr y)), some (.inl (n : Int)), some (.inl ((4 + n : Nat) : Int)), some (.inl 0)] rfl ?_
        have k0 : ∀ a k, ¬ Mb y 1 a k → cpy J1 (y + 5) 8 (fun k => J1 (y + 12) (4 + k)) n a k = xup I y 15 0 a k := fun a k q => by
          unfold Mb Ob at q
          rw [cpy_out (by omega), ← hJ1]; unfold bgI; (simp only [xup_ap, true_and, and_true, if_true, if_false]; repeat (first | rw [if_neg (by omega)] | rw [if_pos (by omega)]))
        have tl : ((xs.drop 4).take n).length = n := by simp; omega
        have hrd : rd xs = match prun xs xs.length (4 + n) 0 [] with
            | none => (-4, 0, 0, 0, [], [], [])
            | some (p, os) => rdE xs p os := by
          unfold rd
          rw [if_neg (by omega), if_neg (by omega), if_neg (by omega), hn, Int.toNat_natCast]
          cases prun xs xs.length (4 + n) 0 [] <;> rfl
        refine lf_loop (ty := xs.getD 0 0 / 16 % 4) (co := xs.getD 1 0) (id := 256 * xs.getD 2 0 + xs.getD 3 0) (tok := (xs.drop 4).take n) D h hH hrd ⟨rfl, rfl, rfl, by rw [hn, Int.toNat_natCast]⟩ ⟨by omega, by omega, by omega, (h3.drop 4).take n, by omega⟩ xs.length (4 + n) 0 [] _ (by omega) (by omega) rfl (by omega) trivial (fun q hq => by simp at hq) (fun a k q => ?_) ?_ ⟨⟨?_, ?_, ?_⟩, ⟨?_, fun j hj => ?_⟩, ⟨?_, fun k hk => by simp at hk⟩, ?_, Rw.nil⟩
        · rw [k0 a k (fun r => q (Or.inl r))]; exact f0 a k q
        · rw [k0 _ _ (by unfold Mb Ob; omega), if_neg (by simp)]; exact t0
        · rw [cpy_out (by omega), ← hJ1]; unfold bgI; (simp only [xup_ap, true_and, and_true, if_true, if_false]; repeat (first | rw [if_neg (by omega)] | rw [if_pos (by omega)]))
        · rw [cpy_out (by omega), ← hJ1]; unfold bgI; (simp only [xup_ap, true_and, and_true, if_true, if_false]; repeat (first | rw [if_neg (by omega)] | rw [if_pos (by omega)]))
        · rw [cpy_out (by omega), ← hJ1]; unfold bgI; (simp only [xup_ap, true_and, and_true, if_true, if_false]; repeat (first | rw [if_neg (by omega)] | rw [if_pos (by omega)]))
        · rw [cpy_out (by omega), ← hJ1]; dsimp only; rw [tl]; unfold bgI; (simp only [xup_ap, true_and, and_true, if_true, if_false]; repeat (first | rw [if_neg (by omega)] | rw [if_pos (by omega)]))
        · dsimp only at hj ⊢
          rw [tl] at hj
          have := h4 (4 + j) (by omega)
          rw [Nat.zero_add] at this
          rw [Nat.mul_one, cpy_in hj, j12, this]
          rw [List.getD_eq_getElem?_getD, List.getD_eq_getElem?_getD, List.getElem?_take_of_lt hj, List.getElem?_drop]
        · rw [cpy_out (by omega), ← hJ1]; unfold bgI; (simp only [xup_ap, true_and, and_true, if_true, if_false]; repeat (first | rw [if_neg (by omega)] | rw [if_pos (by omega)])); rfl
        · rw [cpy_out (by omega), ← hJ1]; unfold bgI; (simp only [xup_ap, true_and, and_true, if_true, if_false]; repeat (first | rw [if_neg (by omega)] | rw [if_pos (by omega)])); rfl
      · refine V_run D [] 107 rfl trivial ?_
        refine V_ige D 133 rfl rfl (by omega) (by omega) (fun q => absurd q (by omega)) (fun _ => ?_)
        refine V_run D [105] 105 rfl ⟨h.a5 (by omega), h.a12 (by omega), h.1, h.1, trivial⟩ ?_
        rw [h.n5, h.n12, show ((8 : Int) + (k : Int)).toNat = 8 + k by omega, show ((4 : Int) + (k : Int)).toNat = 4 + k by omega, cpy_out (by omega)]
        have st := cpy_step J1 (y + 5) 8 (fun k => J1 (y + 12) (4 + k)) k
        rw [st]
        exact V_loc [some (.inr (.inr y)), some (.inl (n : Int)), some (.inl ((k + 1 : Nat) : Int))] rfl ih
    · refine V_run D [] 29 rfl trivial ?_
      refine V_iret D rfl rfl (ftP.bad ?_ (by omega) f0 (Or.inl t0))
      unfold rd; rw [if_neg (by omega), if_pos c2]
  · refine V_run D [] 14 rfl trivial ?_
    refine V_iret D rfl rfl (ftP.bad ?_ (by omega) f0 (Or.inl t0))
    unfold rd; rw [if_pos (by omega)]
end XRef11
