theorem Ab_Mb {y a k : Nat} (h : Ab y a k) : Mb y 2 a k := by
  rcases h with r | r | r
  · exact Or.inr (Or.inr (Or.inl r))
  · unfold Mb; omega
  · unfold Mb; omega
section XRef22
variable {Γ : xG} {E : xE} {M : xM} {z : Nat} {T : xY} {I I' J : xI} {N : xN} {y m lev mc ms ce sl pc idx i r n k : Nat} {os : List Opt} {g : Msg} {x : Dk} {xs v : List Int} {Q : State → Prop} {lv : xL} {q : Opt} {rs : List Res} {tags : Int} {s s' : Sv}
/-- a request that is new -/
theorem ls_new {p : Nat} {c2 : Int} (D : xD Γ E mX10_serve 4 0 0) (h : MdAt T I N y x) (hok : DkOk x) (hM : MM I y 1 g) (hg : MOk g) (hn : g.2.2.2.2.1.length ≤ 20) (hp : p < 10) (hgt : g.1 ≤ 1) (hc : 1 ≤ g.2.1) (hcnt : (x.2.2.2.2 p).2 < 2147483647)
    (K : ∀ J, (∀ a k, ¬ (Fx y a k ∨ Mb y 2 a k ∨ Hb y a k ∨ Rb y a k ∨ Cb y a k ∨ Sb y a) → J a k = I a k) → MdAt T J N y (wr (ansM x.2.2 g), x.2.1, ((act x.2.2.1.1 x.2.2.1.2 g).2, (x.2.2.2.1.1 + 1, x.2.2.2.1.2.1, (if g.1 = 0 then x.2.2.2.1.2.2 else (x.2.2.2.1.2.2 + 1) % 65536)), va_up x.2.2.2.2 p ((x.2.2.2.2 p).1.set ((x.2.2.2.2 p).2 % 8) (g.2.2.1, wr (ansM x.2.2 g)), (x.2.2.2.2 p).2 + 1))) → V Γ E Q z T J N 0 0 465 (xlv [some (.inr (.inr y))]) [.inl (act x.2.2.1.1 x.2.2.1.2 g).1.1]) (lv : xL) (l0 : lv 0 = some (.inr (.inr y))) (l1 : lv 1 = some (.inl (p : Int))) (l2 : lv 2 = some (.inl c2)) :
    V Γ E Q z T I N 0 0 212 lv [] := by
  have hS := h.1
  obtain ⟨_, _, _, hR, hC, hSS⟩ := _root_.id h
  have hs := hok.2
  have hown := hs.2.2.2.1
  have hPr := hs.2.2.2.2 p hp
  obtain ⟨aok, alen⟩ := ansM_ok hs hg hn
  have ktl := hg.2.2.2.1.2
  refine V_lv (lv' := xlv [some (.inr (.inr y)), some (.inl (p : Int)), some (.inl c2)]) (fun j v hj => by match j, hj with | 0, hj => exact l0.trans hj | 1, hj => exact l1.trans hj | 2, hj => exact l2.trans hj) ?_
  -- behind the beginning of the answer
  have s295 : ∀ J0 : xI, J0 = xup (bgI (xup I y 24 (x.2.2.2.1.1 + 1)) y 2 (if g.1 = 0 then 2 else 1) 0 (if g.1 = 0 then g.2.2.1 else x.2.2.2.1.2.2)) y 26 (if g.1 = 0 then x.2.2.2.1.2.2 else (x.2.2.2.1.2.2 + 1) % 65536) → V Γ E Q z T J0 N 0 0 295 (xlv [some (.inr (.inr y)), some (.inl (p : Int)), some (.inl c2), some (.inl g.2.2.1)]) [] := fun J0 hJ0 => by
    have k0 : ∀ a k, ¬ Mb y 2 a k → ¬ (a = y ∧ (k = 24 ∨ k = 26)) → J0 a k = I a k := fun a k q1 q2 => by
      rw [hJ0, xup_ap, if_neg (by omega), bg_out q1, xup_ap, if_neg (by omega)]
    have m2 : MM J0 y 2 ((if g.1 = 0 then 2 else 1), 0, (if g.1 = 0 then g.2.2.1 else x.2.2.2.1.2.2), [], [], []) := by
      have := bg_at (I := xup I y 24 (x.2.2.2.1.1 + 1)) (y := y) (m := 2) (a := (if g.1 = 0 then 2 else 1)) (b := 0) (c := (if g.1 = 0 then g.2.2.1 else x.2.2.2.1.2.2)) (by omega)
      refine this.kept ⟨by dsimp only; split <;> omega, by dsimp only; omega, by have := hg.2.2.1; dsimp only; split <;> omega, ⟨BsOk.nil, by simp⟩, trivial, BsOk.nil, by simp⟩ (by simp) (fun a k q => ?_)
      unfold Mb Ob at q
      rw [hJ0, xup_ap, if_neg (by omega)]
    have j4 : J0 (y + 4) 1 = (g.2.2.2.1.length : Int) := by rw [k0 _ _ (by unfold Mb Ob; omega) (by omega)]; exact hM.2.1.1
    have j24 : J0 y 24 = x.2.2.2.1.1 + 1 := by rw [hJ0, xup_ap, if_neg (by omega), bg_out (by unfold Mb Ob; omega), xup_ap, if_pos ⟨rfl, rfl⟩]
    have j26 : J0 y 26 = (if g.1 = 0 then x.2.2.2.1.2.2 else (x.2.2.2.1.2.2 + 1) % 65536) := by rw [hJ0, xup_ap, if_pos ⟨rfl, rfl⟩]
    refine V_run D [310] 310 rfl ⟨hS.a4 (by omega), hS.a4 (by omega), hS.1, hS.1, trivial⟩ ?_
    rw [hS.n4, show ((1 : Int)).toNat = 1 from rfl, show ((2 : Int)).toNat = 2 from rfl, j4]
    generalize hJ1 : xup J0 (y + 4) 2 (g.2.2.2.1.length : Int) = J1
    have c4 : ∀ n, n ≤ 8 → cpy J1 (y + 5) 16 (fun k => J1 (y + 5) (8 + k)) n (y + 4) 1 = (g.2.2.2.1.length : Int) := fun n _ => by rw [cpy_out (by omega), ← hJ1, ← j4]; (simp only [xup_ap, true_and, and_true, if_true, if_false]; repeat (first | rw [if_neg (by omega)] | rw [if_pos (by omega)]))
    rw [← cpy_0 J1 (y + 5) 16 (fun k => J1 (y + 5) (8 + k))]
    refine V_loc [some (.inr (.inr y)), some (.inl (p : Int)), some (.inl c2), some (.inl g.2.2.1), some (.inl ((0 : Nat) : Int))] rfl ?_
    refine xdn (P := fun k => V Γ E Q z T (cpy J1 (y + 5) 16 (fun k => J1 (y + 5) (8 + k)) k) N 0 0 310 (xlv [some (.inr (.inr y)), some (.inl (p : Int)), some (.inl c2), some (.inl g.2.2.1), some (.inl (k : Int))]) []) g.2.2.2.1.length ?_ (fun k hk ih => ?_)
    · refine V_run D [] 318 rfl ⟨hS.a4 (by omega), hS.1, trivial⟩ ?_
      rw [hS.n4, show ((1 : Int)).toNat = 1 from rfl, c4 _ ktl]
      refine V_ige D 347 rfl rfl (by omega) (by omega) (fun _ => ?_) (fun q => absurd q (by omega))
      generalize hJ2 : cpy J1 (y + 5) 16 (fun k => J1 (y + 5) (8 + k)) g.2.2.2.1.length = J2
      have k2 : ∀ a k, ¬ Mb y 2 a k → J2 a k = J0 a k := fun a k q => by
        unfold Mb Ob at q
        rw [← hJ2, cpy_out (by omega), ← hJ1, xup_ap, if_neg (by omega)]
      have k2I : ∀ a k, ¬ Mb y 2 a k → ¬ (a = y ∧ (k = 24 ∨ k = 26)) → J2 a k = I a k := fun a k q1 q2 => by rw [k2 a k q1, k0 a k q1 q2]
      have m1 : MM J2 y 1 g := hM.kept hg hn (fun a k q => k2I a k (by unfold Mb Ob at q ⊢; omega) (by unfold Mb Ob at q; omega))
      have r2 : RR J2 y x.2.2.1.1 x.2.2.1.2 := hR.kept (fun a k q => k2I a k (by unfold Rb at q; unfold Mb Ob; omega) (by unfold Rb at q; omega))
      have n2 : ∀ a k, a ≠ y + 4 → a ≠ y + 5 → J2 a k = J0 a k := fun a k q1 q2 => by rw [← hJ2, cpy_out (by omega), ← hJ1, xup_ap, if_neg (by omega)]
      obtain ⟨⟨t1, t2, t3⟩, ⟨t4, t5⟩, t6, t7, t8⟩ := m2
      have aa : AA J2 y ([], []) := ⟨⟨by rw [n2 _ _ (by omega) (by omega)]; exact t6.1, fun k hk => by simp at hk⟩, by rw [n2 _ _ (by omega) (by omega)]; exact t7, Rw.nil⟩
      refine V_run D [] 353 rfl ⟨hS.1, trivial⟩ ?_
      refine V_mdV (av := []) (st := [.inl 2, .inr (.inr (N y 2))]) D mwX10_answer rfl lkX10_X10_answer (r_answer hS m1 hg hn r2 hs.1 hs.2.1 hs.2.2.1 aa hc) hS.1 rfl ⟨Nat.le_refl _, Nat.le_refl _⟩ (fun rr J3 P3 => ?_)
      obtain ⟨rfl, f3, a3, r3⟩ := P3
      have n3 : ∀ a k, ¬ (Ab y a k ∨ Rb y a k) → J3 a k = J2 a k := f3
      refine V_run D [] 359 rfl ⟨hS.a2 (by omega), trivial⟩ ?_
      rw [hS.n2, show ((2 : Int)).toNat = 2 from rfl]
      generalize hJ4 : xup J3 (y + 2) 2 (act x.2.2.1.1 x.2.2.1.2 g).1.1 = J4
      have n4 : ∀ a k, ¬ (a = y + 2 ∧ k = 2) → J4 a k = J3 a k := fun a k q => by rw [← hJ4, xup_ap, if_neg q]
      have ml : (ansM x.2.2 g).2.2.2.2.1.length ≤ 20 := by
        have := (actK_ok (k := rfi (pe (pth g.2.2.2.2.1)) x.2.2.1.1) hs.1 hs.2.1 hs.2.2.1 hg hn).1.2.2.2.2.1
        show (act x.2.2.1.1 x.2.2.1.2 g).1.2.1.length ≤ 20
        unfold act; omega
      have m4 : MM J4 y 2 (ansM x.2.2 g) := by
        refine ⟨⟨?_, ?_, ?_⟩, ⟨?_, fun j hj => ?_⟩, ?_, ?_, ?_⟩
        · rw [n4 _ _ (by omega), n3 _ _ (by unfold Ab Ob Rb; omega), n2 _ _ (by omega) (by omega)]; exact t1
        · rw [← hJ4, xup_ap, if_pos ⟨rfl, rfl⟩]; rfl
        · rw [n4 _ _ (by omega), n3 _ _ (by unfold Ab Ob Rb; omega), n2 _ _ (by omega) (by omega)]; exact t3
        · rw [n4 _ _ (by omega), n3 _ _ (by unfold Ab Ob Rb; omega), ← hJ2, cpy_out (by omega), ← hJ1, xup_ap, if_pos ⟨rfl, rfl⟩]; rfl
        · have hj' : j < g.2.2.2.1.length := hj
          have := hM.2.1.2 j hj'
          rw [n4 _ _ (by omega), n3 _ _ (by unfold Ab Ob Rb; omega), ← hJ2, show 8 * 2 + j = 16 + j by omega, cpy_in hj', ← hJ1, xup_ap, if_neg (by omega), k0 _ _ (by unfold Mb Ob; omega) (by omega), show 8 + j = 8 * 1 + j by omega, this]
          rfl
        · exact a3.1.kept (OL_of aok.2.2.2.2.1 (Int.le_refl _)) (by have : (act x.2.2.1.1 x.2.2.1.2 g).1.2.1.length ≤ 20 := ml; omega) (fun a k q => n4 a k (by unfold Ob at q; omega))
        · rw [n4 _ _ (by omega)]; exact a3.2.1
        · exact a3.2.2.kept (fun j _ => n4 _ _ (by omega))
      refine V_mdV (av := [.inl ((2 : Nat) : Int)]) (st := []) D mwX10_writes rfl lkX10_X10_writes (r_writes hS (by omega) m4 aok ml (by omega)) hS.1 rfl ⟨Nat.le_refl _, Nat.le_refl _⟩ (fun rr J5 P5 => ?_)
      obtain ⟨rfl, f5, h5⟩ := P5
      have k5 : ∀ a k, ¬ (Mb y 2 a k ∨ Hb y a k ∨ Rb y a k ∨ Cb y a k) → J5 a k = I a k := fun a k q => by
        rw [f5 a k (fun r => q (Or.inr (Or.inl r))), n4 a k (fun r => q (Or.inl (by unfold Mb; omega))), n3 a k (fun r => r.elim (fun r => q (Or.inl (Ab_Mb r))) (fun r => q (Or.inr (Or.inr (Or.inl r))))), k2I a k (fun r => q (Or.inl r)) (fun r => q (Or.inr (Or.inr (Or.inr (by unfold Cb; omega)))))]
      have c5 : J5 (y + 2) 2 = bat (wr (ansM x.2.2 g)) 1 := by rw [f5 _ _ (by unfold Hb; omega), ← hJ4, xup_ap, if_pos ⟨rfl, rfl⟩, bat_wr]; rfl
      have s5 : J5 (y + 19) p = ((x.2.2.2.2 p).2 : Int) := by rw [k5 _ _ (by unfold Mb Ob Hb Rb Cb; omega)]; exact (hSS p hp).1
      have q5 : ∀ a k, (a = y ∧ (k = 24 ∨ k = 25 ∨ k = 26)) → J5 a k = J0 a k := fun a k q => by
        rw [f5 a k (by unfold Hb; omega), n4 a k (by omega), n3 a k (by unfold Ab Ob Rb; omega), k2 a k (by unfold Mb Ob; omega)]
      refine V_loc [some (.inr (.inr y)), some (.inl (p : Int)), some (.inl c2), some (.inl g.2.2.1)] rfl ?_
      refine ls_keep D hS hp h5 alen c5 s5 (by omega) (fun J6 f6 u6 b6 => ?_)
      have ec : bat (wr (ansM x.2.2 g)) 1 = (act x.2.2.1.1 x.2.2.1.2 g).1.1 := by rw [bat_wr]; rfl
      rw [ec]
      have n6 : ∀ a k, ¬ Sb y a → J6 a k = J5 a k := fun a k q => f6 a k (by unfold Sb at q; omega)
      refine K J6 (fun a k q => ?_) (h.setS hok.1 (fun a k q => ?_) ?_ ?_ ⟨?_, ?_, ?_⟩ ?_)
      · rw [n6 a k (fun r => q (Or.inr (Or.inr (Or.inr (Or.inr (Or.inr r)))))), k5 a k (fun r => q ?_)]
        rcases r with r | r | r | r
        · exact Or.inr (Or.inl r)
        · exact Or.inr (Or.inr (Or.inl r))
        · exact Or.inr (Or.inr (Or.inr (Or.inl r)))
        · exact Or.inr (Or.inr (Or.inr (Or.inr (Or.inl r))))
      · rw [n6 a k (by unfold Mb Ob at q; unfold Sb; omega), k5 a k (by unfold Mb Ob at q ⊢; unfold Hb Rb Cb; omega)]
      · exact h5.kept (n6 _ _ (by unfold Sb; omega)) (fun k _ => n6 _ _ (by unfold Sb; omega))
      · exact r3.kept (fun a k q => by rw [n6 a k (by unfold Rb at q; unfold Sb; omega), f5 a k (by unfold Rb at q; unfold Hb; omega), n4 a k (by unfold Rb at q; omega)])
      · rw [n6 _ _ (by unfold Sb; omega), q5 _ _ (by omega), j24]
      · rw [n6 _ _ (by unfold Sb; omega), q5 _ _ (by omega), k0 _ _ (by unfold Mb Ob; omega) (by omega)]; exact hC.2.1
      · rw [n6 _ _ (by unfold Sb; omega), q5 _ _ (by omega), j26]
      · intro p' hp'
        have sI : ∀ a k, Sb y a → J5 a k = I a k := fun a k q => k5 a k (by unfold Sb at q; unfold Mb Ob Hb Rb Cb; omega)
        by_cases cp : p' = p
        · subst cp
          have eu : (va_up x.2.2.2.2 p' ((x.2.2.2.2 p').1.set ((x.2.2.2.2 p').2 % 8) (g.2.2.1, wr (ansM x.2.2 g)), (x.2.2.2.2 p').2 + 1)) p' = ((x.2.2.2.2 p').1.set ((x.2.2.2.2 p').2 % 8) (g.2.2.1, wr (ansM x.2.2 g)), (x.2.2.2.2 p').2 + 1) := by unfold va_up; rw [if_pos rfl]
          dsimp only
          rw [eu]
          refine ⟨by rw [u6]; dsimp only; omega, fun k hk1 hk2 => ?_⟩
          dsimp only at hk2 ⊢
          rw [od_set (by rw [hPr.1]; omega)]
          by_cases ck : k = (x.2.2.2.2 p').2 % 8
          · rw [if_pos ck, ck]; exact b6
          · rw [if_neg ck]
            have hk3 : k < (x.2.2.2.2 p').2 := by omega
            obtain ⟨b1, b2, b3, b4⟩ := (hSS p' hp').2 k hk1 hk3
            have hl := ((hPr.2 k hk1).2 hk3).2.2.2
            have kk : ∀ a j, Sb y a → ¬ (a = y + 19) → ¬ ((a = y + 20 ∨ a = y + 21 ∨ a = y + 22) ∧ j = 8 * p' + (x.2.2.2.2 p').2 % 8) → ¬ (a = y + 23 ∧ 2000 * (8 * p' + (x.2.2.2.2 p').2 % 8) ≤ j ∧ j < 2000 * (8 * p' + (x.2.2.2.2 p').2 % 8) + 2000) → J6 a j = I a j := fun a j q0 q1 q2 q3 => by rw [f6 a j (by omega), sI a j q0]
            exact ⟨by rw [kk _ _ (by unfold Sb; omega) (by omega) (by omega) (by omega)]; exact b1, by rw [kk _ _ (by unfold Sb; omega) (by omega) (by omega) (by omega)]; exact b2, by rw [kk _ _ (by unfold Sb; omega) (by omega) (by omega) (by omega)]; exact b3, b4.kept (fun j hj => kk _ _ (by unfold Sb; omega) (by omega) (by omega) (by omega))⟩
        · have eu : (va_up x.2.2.2.2 p ((x.2.2.2.2 p).1.set ((x.2.2.2.2 p).2 % 8) (g.2.2.1, wr (ansM x.2.2 g)), (x.2.2.2.2 p).2 + 1)) p' = x.2.2.2.2 p' := by unfold va_up; rw [if_neg cp]
          dsimp only
          rw [eu]
          refine ⟨?_, fun k hk1 hk2 => ?_⟩
          · rw [f6 _ _ (by omega), sI _ _ (by unfold Sb; omega)]; exact (hSS p' hp').1
          · obtain ⟨b1, b2, b3, b4⟩ := (hSS p' hp').2 k hk1 hk2
            have hl := (((hs.2.2.2.2 p' hp').2 k hk1).2 hk2).2.2.2
            have kk : ∀ a j, Sb y a → ¬ (a = y + 19) → ¬ ((a = y + 20 ∨ a = y + 21 ∨ a = y + 22) ∧ j = 8 * p + (x.2.2.2.2 p).2 % 8) → ¬ (a = y + 23 ∧ 2000 * (8 * p + (x.2.2.2.2 p).2 % 8) ≤ j ∧ j < 2000 * (8 * p + (x.2.2.2.2 p).2 % 8) + 2000) → J6 a j = I a j := fun a j q0 q1 q2 q3 => by rw [f6 a j (by omega), sI a j q0]
            exact ⟨by rw [kk _ _ (by unfold Sb; omega) (by omega) (by omega) (by omega)]; exact b1, by rw [kk _ _ (by unfold Sb; omega) (by omega) (by omega) (by omega)]; exact b2, by rw [kk _ _ (by unfold Sb; omega) (by omega) (by omega) (by omega)]; exact b3, b4.kept (fun j hj => kk _ _ (by unfold Sb; omega) (by omega) (by omega) (by omega))⟩
    · refine V_run D [] 318 rfl ⟨hS.a4 (by omega), hS.1, trivial⟩ ?_
      rw [hS.n4, show ((1 : Int)).toNat = 1 from rfl, c4 _ (by omega)]
      refine V_ige D 347 rfl rfl (by omega) (by omega) (fun q => absurd q (by omega)) (fun _ => ?_)
      refine V_run D [310] 310 rfl ⟨hS.a5 (by omega), hS.a5 (by omega), hS.1, hS.1, trivial⟩ ?_
      rw [hS.n5, show ((16 : Int) + (k : Int)).toNat = 16 + k by omega, show ((8 : Int) + (k : Int)).toNat = 8 + k by omega, cpy_out (by omega)]
      have st := cpy_step J1 (y + 5) 16 (fun k => J1 (y + 5) (8 + k)) k
      rw [st]
      exact V_loc [some (.inr (.inr y)), some (.inl (p : Int)), some (.inl c2), some (.inl g.2.2.1), some (.inl ((k + 1 : Nat) : Int))] rfl ih
  have e24 : I y 24 = x.2.2.2.1.1 := hC.1
  have e26 : I y 26 = x.2.2.2.1.2.2 := hC.2.2
  have e1 : xup I y 24 (x.2.2.2.1.1 + 1) (y + 1) 1 = g.1 := by rw [xup_ap, if_neg (by omega)]; exact hM.1.1
  have e3 : xup I y 24 (x.2.2.2.1.1 + 1) (y + 3) 1 = g.2.2.1 := by rw [xup_ap, if_neg (by omega)]; exact hM.1.2.2
  have e26' : xup I y 24 (x.2.2.2.1.1 + 1) y 26 = x.2.2.2.1.2.2 := by rw [xup_ap, if_neg (by omega)]; exact e26
  have hgb := hg.1
  refine V_run D [] 237 rfl ⟨hS.a1 (by omega), hS.1, hS.a3 (by omega), hS.1, hS.1, hS.1, trivial⟩ ?_
  rw [hS.n1, hS.n3, show ((1 : Int)).toNat = 1 from rfl, e24, e1, e3]
  by_cases c0 : g.1 = 0
  · simp only [if_pos c0] at s295
    refine V_ne D 244 rfl rfl (by omega) (fun q => absurd c0 q) (fun _ => ?_)
    refine V_run D [] 252 rfl ⟨hS.a1 (by omega), hS.1, trivial⟩ ?_
    rw [hS.n1, show ((1 : Int)).toNat = 1 from rfl, e1]
    refine V_ne D 259 rfl rfl (by omega) (fun q => absurd c0 q) (fun _ => ?_)
    refine V_run D [] 263 rfl trivial ?_
    refine V_mdV (av := [.inl ((2 : Nat) : Int), .inl 2, .inl 0, .inl g.2.2.1]) (st := []) D mwX10_begins rfl lkX10_X10_begins (r_begins hS (by omega)) hS.1 rfl ⟨Nat.le_refl _, Nat.le_refl _⟩ (fun rr J0 P0 => ?_)
    obtain ⟨rfl, rfl⟩ := P0
    have e1' : bgI (xup I y 24 (x.2.2.2.1.1 + 1)) y 2 2 0 g.2.2.1 (y + 1) 1 = g.1 := by rw [bg_out (by unfold Mb Ob; omega)]; exact e1
    have e26'' : bgI (xup I y 24 (x.2.2.2.1.1 + 1)) y 2 2 0 g.2.2.1 y 26 = x.2.2.2.1.2.2 := by rw [bg_out (by unfold Mb Ob; omega)]; exact e26'
    refine V_run D [] 273 rfl ⟨hS.a1 (by omega), hS.1, trivial⟩ ?_
    rw [hS.n1, show ((1 : Int)).toNat = 1 from rfl, e1']
    refine V_ne D 283 rfl rfl (by omega) (fun q => absurd c0 q) (fun _ => ?_)
    refine V_run D [295] 295 rfl ⟨hS.1, hS.1, trivial⟩ ?_
    rw [e26'']
    exact V_loc [some (.inr (.inr y)), some (.inl (p : Int)), some (.inl c2), some (.inl g.2.2.1)] rfl (s295 _ rfl)
  · simp only [if_neg c0] at s295
    refine V_ne D 244 rfl rfl (by omega) (fun _ => ?_) (fun q => absurd q c0)
    refine V_run D [] 252 rfl ⟨hS.a1 (by omega), hS.1, trivial⟩ ?_
    rw [hS.n1, show ((1 : Int)).toNat = 1 from rfl, e1]
    refine V_ne D 259 rfl rfl (by omega) (fun _ => ?_) (fun q => absurd q c0)
    refine V_run D [] 263 rfl ⟨hS.1, trivial⟩ ?_
    rw [e26']
    refine V_mdV (av := [.inl ((2 : Nat) : Int), .inl 1, .inl 0, .inl x.2.2.2.1.2.2]) (st := []) D mwX10_begins rfl lkX10_X10_begins (r_begins hS (by omega)) hS.1 rfl ⟨Nat.le_refl _, Nat.le_refl _⟩ (fun rr J0 P0 => ?_)
    obtain ⟨rfl, rfl⟩ := P0
    have e1' : bgI (xup I y 24 (x.2.2.2.1.1 + 1)) y 2 1 0 x.2.2.2.1.2.2 (y + 1) 1 = g.1 := by rw [bg_out (by unfold Mb Ob; omega)]; exact e1
    have e26'' : bgI (xup I y 24 (x.2.2.2.1.1 + 1)) y 2 1 0 x.2.2.2.1.2.2 y 26 = x.2.2.2.1.2.2 := by rw [bg_out (by unfold Mb Ob; omega)]; exact e26'
    refine V_run D [] 273 rfl ⟨hS.a1 (by omega), hS.1, trivial⟩ ?_
    rw [hS.n1, show ((1 : Int)).toNat = 1 from rfl, e1']
    refine V_ne D 283 rfl rfl (by omega) (fun _ => ?_) (fun q => absurd q c0)
    refine V_run D [295] 295 rfl ⟨hS.1, hS.1, trivial⟩ ?_
    rw [e26'', show zAnd (x.2.2.2.1.2.2 + 1) 65535 = (x.2.2.2.1.2.2 + 1) % 65536 from zAndM (x.2.2.2.1.2.2 + 1) 16 65535 (by omega) (by decide)]
    exact V_loc [some (.inr (.inr y)), some (.inl (p : Int)), some (.inl c2), some (.inl g.2.2.1)] rfl (s295 _ rfl)
end XRef22
