section XRef12
variable {Γ : xG} {E : xE} {M : xM} {z : Nat} {T : xY} {I J : xI} {N : xN} {y m lev mc ms ce sl pc idx i p : Nat} {os : List Opt} {g : Msg} {x : Dk} {xs : List Int} {Q : State → Prop} {lv : xL} {q : Opt}
theorem MdAt.fx (h : MdAt T I N y x) (hok : MOk x.2.1.1) (hf : Fr (Fx y) I J) : MdAt T J N y x := h.kept hok (fun a k q => hf a k (by unfold Kp Rb Cb Mb Ob Sb at q; unfold Fx Mb Ob; omega))
theorem r_read (h : MdAt T I N y x) (hok : MOk x.2.1.1) : Spec mX10_read 2 [.inr (.inr y)] z T I N 0 0 (MdP z T I N y rI (dRead x)) := by
  have hS := h.1
  have hrr := rd_rng x.1
  have hl2 := h.2.1.1.2.1
  refine Spec_of okX10_read (by decide) (by decide) (Nat.le_of_ble_eq_true rfl) fun Γ E D => ?_
  refine V_run D [] 1 rfl trivial ?_
  refine V_mdV (av := []) (st := []) D mwX10_fault rfl lkX10_X10_fault (r_fault hS h.2.1) hS.1 rfl ⟨Nat.le_refl _, Nat.le_refl _⟩ (fun r I1 P1 => ?_)
  obtain ⟨rfl, f1, t1, g1⟩ := P1
  have h1 := h.fx hok f1
  have out1 : ∀ a, (a < y ∨ y + 24 ≤ a) → I1 a = I a := fun a ha => funext fun k => f1 a k (by unfold Fx Mb Ob; omega)
  have no : ∀ (c : Nat) (rr : Option xV) (v : Int) , dRead x = (c, v, x) → rr = rI v → MdP z T I N y rI (dRead x) rr z T (xup I1 y 0 (c : Int)) N := fun c rr v e hr => by
    rw [e]; exact ⟨rfl, rfl, rfl, hr, xup_0, fun a ha => by rw [xup_ne (by omega)]; exact out1 a ha, h1.code hok _⟩
  refine V_run D [] 7 rfl trivial ?_
  rcases hrr.1 with h0 | hn
  · have hm := (rd_ok h.2.1.1.2.2 h0).1
    obtain ⟨gt, gm⟩ := g1 h0
    rw [h0]
    refine V_ne D 21 rfl rfl (by omega) (fun q => absurd rfl q) (fun _ => ?_)
    refine V_run D [] 14 rfl ⟨hS.1, trivial⟩ ?_
    refine V_eq D 21 rfl rfl (by omega) (fun c1 => ?_) (fun c1 => ?_)
    · have hle := gt.mp c1
      have e : dRead x = (0, ((rd x.1).2.2.2.2.2.1.length : Int), (x.1, ((rd x.1).2, none), x.2.2)) := by unfold dRead; rw [if_neg (by omega), if_neg (by omega)]
      rw [e]
      have gm := gm hle
      generalize rd x.1 = R at *
      obtain ⟨R1, g⟩ := R
      dsimp only at gm hle hm ⊢
      obtain ⟨⟨a1, a2, a3⟩, ⟨b1, b2⟩, c, d1, d2⟩ := gm
      have k1 := hm.2.2.2.1.2
      have k2 := hm.2.2.2.2.2.2
      have hL := OL_of hm.2.2.2.2.1 (Int.le_refl _)
      refine V_run D [] 22 rfl trivial ?_
      refine V_ref0 D hS rfl lkX10_X10_refuses 30 rfl rfl rfl ⟨Nat.le_refl _, Nat.le_refl _⟩ ?_
      refine V_run D [] 31 rfl trivial ?_
      refine V_le D 37 rfl rfl (by omega) (fun _ => ?_) (fun q => absurd (Int.le_refl _) q)
      have n0 : ∀ a, a ≠ y → xup I1 y 0 0 a = I1 a := fun a ha => xup_ne ha
      refine V_run D [] 57 rfl ⟨hS.a3 (by omega), hS.1, hS.a2 (by omega), hS.1, hS.a1 (by omega), hS.1, trivial⟩ ?_
      rw [hS.n1, hS.n2, hS.n3, show ((1 : Int)).toNat = 1 from rfl, n0 _ (by omega), n0 _ (by omega), n0 _ (by omega), a1, a2, a3]
      refine V_mdV (av := [.inl ((0 : Nat) : Int), .inl g.1, .inl g.2.1, .inl g.2.2.1]) (st := []) D mwX10_begins rfl lkX10_X10_begins (r_begins hS (by omega)) hS.1 rfl ⟨Nat.le_refl _, Nat.le_refl _⟩ (fun r J0 P0 => ?_)
      obtain ⟨rfl, rfl⟩ := P0
      have b1' : xup (bgI (xup I1 y 0 0) y 0 g.1 g.2.1 g.2.2.1) y 12 (-1) (y + 4) 1 = (g.2.2.2.1.length : Int) := by rw [← b1]; unfold bgI; (simp only [xup_ap, true_and, and_true, if_true, if_false]; repeat (first | rw [if_neg (by omega)] | rw [if_pos (by omega)]))
      refine V_run D [79] 79 rfl ⟨hS.a4 (by omega), hS.a4 (by omega), hS.1, hS.1, hS.1, trivial⟩ ?_
      rw [hS.n4, show ((1 : Int)).toNat = 1 from rfl, show ((0 : Int)).toNat = 0 from rfl, b1']
      generalize hJ : xup (xup (bgI (xup I1 y 0 0) y 0 g.1 g.2.1 g.2.2.1) y 12 (-1)) (y + 4) 0 (g.2.2.2.1.length : Int) = J
      rw [← cpy_0 J (y + 5) 0 (fun k => J (y + 5) (8 + k))]
      refine V_loc [some (.inr (.inr y)), some (.inl 0), some (.inl ((0 : Nat) : Int))] rfl ?_
      refine xdn (P := fun k => V Γ E (xQ Γ E (MdP z T I N y rI (0, (g.2.2.2.2.1.length : Int), (x.1, (g, none), x.2.2))) 0 0) z T (cpy J (y + 5) 0 (fun k => J (y + 5) (8 + k)) k) N 0 0 79 (xlv [some (.inr (.inr y)), some (.inl 0), some (.inl (k : Int))]) []) 8 ?_ (fun k hk ih => ?_)
      · refine V_run D [] 82 rfl trivial ?_
        refine V_ige D 106 rfl rfl (by omega) (by omega) (fun _ => ?_) (fun q => absurd q (by decide))
        have c1' : cpy J (y + 5) 0 (fun k => J (y + 5) (8 + k)) 8 (y + 6) 1 = (g.2.2.2.2.1.length : Int) := by rw [cpy_out (by omega), ← hJ, ← c.1]; unfold bgI; (simp only [xup_ap, true_and, and_true, if_true, if_false]; repeat (first | rw [if_neg (by omega)] | rw [if_pos (by omega)]))
        refine V_run D [120] 120 rfl ⟨hS.a6 (by omega), hS.a6 (by omega), hS.1, hS.1, trivial⟩ ?_
        rw [hS.n6, show ((1 : Int)).toNat = 1 from rfl, show ((0 : Int)).toNat = 0 from rfl, c1']
        generalize hK : xup (cpy J (y + 5) 0 (fun k => J (y + 5) (8 + k)) 8) (y + 6) 0 (g.2.2.2.2.1.length : Int) = K
        have kI : ∀ a k, ¬ (a = y ∧ (k = 0 ∨ k = 12)) → ¬ Mb y 0 a k → K a k = I1 a k := fun a k q1 q2 => by
          unfold Mb Ob at q2
          rw [← hK, xup_ap, if_neg (by omega), cpy_out (by omega), ← hJ]; unfold bgI; (simp only [xup_ap, true_and, and_true, if_true, if_false]; repeat (first | rw [if_neg (by omega)] | rw [if_pos (by omega)]))
        -- the options
        have key : ∀ d k (L : xI), k + d = g.2.2.2.2.1.length → Fr (fun a k => ((a = y + 7 ∨ a = y + 8) ∧ k < 21) ∨ (a = y + 9 ∧ k < 8400)) K L → (∀ j, j < k → En L y j (od g.2.2.2.2.1 j)) → V Γ E (xQ Γ E (MdP z T I N y rI (0, (g.2.2.2.2.1.length : Int), (x.1, (g, none), x.2.2))) 0 0) z T L N 0 0 120 (xlv [some (.inr (.inr y)), some (.inl 0), some (.inl (k : Int))]) [] := by
          intro d
          induction d with
          | zero =>
            intro k L hk fL eL
            obtain rfl : k = g.2.2.2.2.1.length := by omega
            have lI : ∀ a k, ¬ (a = y ∧ (k = 0 ∨ k = 12)) → ¬ Mb y 0 a k → L a k = I1 a k := fun a k q1 q2 => by
              rw [fL a k (by unfold Mb Ob at q2; omega), kI a k q1 q2]
            have l6 : L (y + 6) 1 = (g.2.2.2.2.1.length : Int) := by rw [lI _ _ (by omega) (by unfold Mb Ob; omega)]; exact c.1
            have l10 : L (y + 10) 1 = (g.2.2.2.2.2.length : Int) := by rw [lI _ _ (by omega) (by unfold Mb Ob; omega)]; exact d1
            refine V_run D [] 127 rfl ⟨hS.a6 (by omega), hS.1, trivial⟩ ?_
            rw [hS.n6, show ((1 : Int)).toNat = 1 from rfl, l6]
            refine V_ige D 145 rfl rfl (by omega) (by omega) (fun _ => ?_) (fun q => absurd q (by omega))
            refine V_run D [159] 159 rfl ⟨hS.a10 (by omega), hS.a10 (by omega), hS.1, hS.1, trivial⟩ ?_
            rw [hS.n10, show ((1 : Int)).toNat = 1 from rfl, show ((0 : Int)).toNat = 0 from rfl, l10]
            generalize hL1 : xup L (y + 10) 0 (g.2.2.2.2.2.length : Int) = L1
            rw [← cpy_0 L1 (y + 11) 0 (fun k => L1 (y + 11) (400 + k))]
            refine V_loc [some (.inr (.inr y)), some (.inl 0), some (.inl ((0 : Nat) : Int))] rfl ?_
            have l10' : ∀ n, n ≤ 400 → cpy L1 (y + 11) 0 (fun k => L1 (y + 11) (400 + k)) n (y + 10) 1 = (g.2.2.2.2.2.length : Int) := fun n hn => by rw [cpy_out (by omega), ← hL1, ← l10]; (simp only [xup_ap, true_and, and_true, if_true, if_false]; repeat (first | rw [if_neg (by omega)] | rw [if_pos (by omega)]))
            refine xdn (P := fun k => V Γ E (xQ Γ E (MdP z T I N y rI (0, (g.2.2.2.2.1.length : Int), (x.1, (g, none), x.2.2))) 0 0) z T (cpy L1 (y + 11) 0 (fun k => L1 (y + 11) (400 + k)) k) N 0 0 159 (xlv [some (.inr (.inr y)), some (.inl 0), some (.inl (k : Int))]) []) g.2.2.2.2.2.length ?_ (fun k hk ih => ?_)
            · refine V_run D [] 166 rfl ⟨hS.a10 (by omega), hS.1, trivial⟩ ?_
              rw [hS.n10, show ((1 : Int)).toNat = 1 from rfl, l10' _ k2]
              refine V_ige D 191 rfl rfl (by omega) (by omega) (fun _ => ?_) (fun q => absurd q (by omega))
              generalize hF : cpy L1 (y + 11) 0 (fun k => L1 (y + 11) (400 + k)) g.2.2.2.2.2.length = F
              have fL1 : ∀ a k, ¬ (a = y + 10 ∧ k = 0) → ¬ (a = y + 11 ∧ k < 400) → F a k = L a k := fun a k q1 q2 => by
                rw [← hF, cpy_out (by omega), ← hL1]; (simp only [xup_ap, true_and, and_true, if_true, if_false]; repeat (first | rw [if_neg (by omega)] | rw [if_pos (by omega)]))
              have fI : ∀ a k, ¬ (a = y ∧ (k = 0 ∨ k = 12)) → ¬ Mb y 0 a k → F a k = I1 a k := fun a k q1 q2 => by
                rw [fL1 a k (by unfold Mb at q2; omega) (by unfold Mb at q2; omega), lI a k q1 q2]
              have f6 : F (y + 6) 0 = (g.2.2.2.2.1.length : Int) := by
                rw [fL1 _ _ (by omega) (by omega), fL _ _ (by omega), ← hK]; (simp only [xup_ap, true_and, and_true, if_true, if_false]; repeat (first | rw [if_neg (by omega)] | rw [if_pos (by omega)]))
              have fJ : ∀ a k, ¬ (a = y + 10 ∧ k = 0) → ¬ (a = y + 11) → ¬ (a = y + 5) → ¬ Ob y 0 a k → F a k = J a k := fun a k q1 q2 q3 q4 => by
                unfold Ob at q4
                rw [fL1 a k (by omega) (by omega), fL a k (by omega), ← hK, xup_ap, if_neg (by omega), cpy_out (by omega)]
              refine V_run D [] 197 rfl ⟨hS.a6 (by omega), hS.1, trivial⟩ ?_
              rw [hS.n6, show ((0 : Int)).toNat = 0 from rfl, f6]
              obtain ⟨p1, p2, ⟨p3, p4, p5⟩, p6, p7, p8⟩ := h1
              refine V_iret D rfl rfl ⟨rfl, rfl, rfl, rfl, ?_, fun a ha => ?_, hS, p2.kept (fI _ _ (by omega) (by unfold Mb Ob; omega)) (fun k _ => fI _ _ (by omega) (by unfold Mb Ob; omega)), ⟨⟨⟨?_, ?_, ?_⟩, ⟨?_, fun j hj => ?_⟩, ⟨f6, fun k hk => ?_⟩, ?_, fun j hj => ?_⟩, hle, ?_⟩, p6.kept (fun a k q => fI a k (by unfold Rb at q; omega) (by unfold Rb at q; unfold Mb Ob; omega)), p7.kept (fun a k q => fI a k (by unfold Cb at q; omega) (by unfold Cb at q; unfold Mb Ob; omega)), p8.kept (fun a k q => fI a k (by unfold Sb at q; omega) (by unfold Sb at q; unfold Mb Ob; omega))⟩
              · rw [fJ _ _ (by omega) (by omega) (by omega) (by unfold Ob; omega), ← hJ]; unfold bgI; (simp only [xup_ap, true_and, and_true, if_true, if_false]; repeat (first | rw [if_neg (by omega)] | rw [if_pos (by omega)])); rfl
              · rw [← out1 a ha]; exact funext fun k => fI a k (by omega) (by unfold Mb Ob; omega)
              · rw [fJ _ _ (by omega) (by omega) (by omega) (by unfold Ob; omega), ← hJ]; unfold bgI; (simp only [xup_ap, true_and, and_true, if_true, if_false]; repeat (first | rw [if_neg (by omega)] | rw [if_pos (by omega)]))
              · rw [fJ _ _ (by omega) (by omega) (by omega) (by unfold Ob; omega), ← hJ]; unfold bgI; (simp only [xup_ap, true_and, and_true, if_true, if_false]; repeat (first | rw [if_neg (by omega)] | rw [if_pos (by omega)]))
              · rw [fJ _ _ (by omega) (by omega) (by omega) (by unfold Ob; omega), ← hJ]; unfold bgI; (simp only [xup_ap, true_and, and_true, if_true, if_false]; repeat (first | rw [if_neg (by omega)] | rw [if_pos (by omega)]))
              · rw [fJ _ _ (by omega) (by omega) (by omega) (by unfold Ob; omega), ← hJ]; unfold bgI; (simp only [xup_ap, true_and, and_true, if_true, if_false]; repeat (first | rw [if_neg (by omega)] | rw [if_pos (by omega)]))
              · have := b2 j hj
                rw [Nat.mul_one] at this
                dsimp only at hj ⊢
                rw [fL1 _ _ (by omega) (by omega), fL _ _ (by omega), ← hK, xup_ap, if_neg (by omega), Nat.mul_zero, cpy_in (by omega), ← this, ← hJ]
                unfold bgI; (simp only [xup_ap, true_and, and_true, if_true, if_false]; repeat (first | rw [if_neg (by omega)] | rw [if_pos (by omega)]))
              · have := eL k hk
                rw [Nat.mul_zero, Nat.zero_add]
                exact this.kept (hL k hk).2.1 (fL1 _ _ (by omega) (by omega)) (fL1 _ _ (by omega) (by omega)) (fun i _ _ => fL1 _ _ (by omega) (by omega))
              · rw [← hF, cpy_out (by omega), ← hL1]; (simp only [xup_ap, true_and, and_true, if_true, if_false]; repeat (first | rw [if_neg (by omega)] | rw [if_pos (by omega)]))
              · have := d2 j hj
                rw [Nat.mul_one] at this
                rw [← hF, Nat.mul_zero, cpy_in hj, ← this, ← hL1, xup_ap, if_neg (by omega), lI _ _ (by omega) (by unfold Mb Ob; omega)]
              · show F y 12 = -1
                rw [fJ _ _ (by omega) (by omega) (by omega) (by unfold Ob; omega), ← hJ]; unfold bgI; (simp only [xup_ap, true_and, and_true, if_true, if_false]; repeat (first | rw [if_neg (by omega)] | rw [if_pos (by omega)]))
            · refine V_run D [] 166 rfl ⟨hS.a10 (by omega), hS.1, trivial⟩ ?_
              rw [hS.n10, show ((1 : Int)).toNat = 1 from rfl, l10' _ (by omega)]
              refine V_ige D 191 rfl rfl (by omega) (by omega) (fun q => absurd q (by omega)) (fun _ => ?_)
              refine V_run D [159] 159 rfl ⟨hS.a11 (by omega), hS.a11 (by omega), hS.1, hS.1, trivial⟩ ?_
              rw [hS.n11, Int.toNat_natCast, show ((400 : Int) + (k : Int)).toNat = 400 + k by omega, cpy_out (by omega)]
              have st := cpy_step L1 (y + 11) 0 (fun k => L1 (y + 11) (400 + k)) k
              rw [Nat.zero_add] at st
              rw [st]
              exact V_loc [some (.inr (.inr y)), some (.inl 0), some (.inl ((k + 1 : Nat) : Int))] rfl ih
          | succ d ih =>
            intro k L hk fL eL
            have lI : ∀ a k, ¬ (a = y ∧ (k = 0 ∨ k = 12)) → ¬ Mb y 0 a k → L a k = I1 a k := fun a k q1 q2 => by
              rw [fL a k (by unfold Mb Ob at q2; omega), kI a k q1 q2]
            have l6 : L (y + 6) 1 = (g.2.2.2.2.1.length : Int) := by rw [lI _ _ (by omega) (by unfold Mb Ob; omega)]; exact c.1
            refine V_run D [] 127 rfl ⟨hS.a6 (by omega), hS.1, trivial⟩ ?_
            rw [hS.n6, show ((1 : Int)).toNat = 1 from rfl, l6]
            refine V_ige D 145 rfl rfl (by omega) (by omega) (fun q => absurd q (by omega)) (fun _ => ?_)
            refine V_run D [] 136 rfl trivial ?_
            have hE : En L y (21 + k) (od g.2.2.2.2.1 k) := by
              have := c.2 k (by omega)
              rw [Nat.mul_one] at this
              exact this.kept (hL k (by omega)).2.1 (lI _ _ (by omega) (by unfold Mb Ob; omega)) (lI _ _ (by omega) (by unfold Mb Ob; omega)) (fun i _ _ => lI _ _ (by omega) (by unfold Mb Ob; omega))
            refine V_mdV (av := [.inl ((21 + k : Nat) : Int), .inl (k : Int)]) (st := []) D mwX10_copies rfl lkX10_X10_copies (r_copies hS (by omega) (by omega) (by omega) hE (hL k (by omega)).2.1) hS.1 rfl ⟨Nat.le_refl _, Nat.le_refl _⟩ (fun r L2 P2 => ?_)
            obtain ⟨rfl, f2, e2⟩ := P2
            refine V_run D [120] 120 rfl trivial ?_
            refine V_loc [some (.inr (.inr y)), some (.inl 0), some (.inl ((k + 1 : Nat) : Int))] rfl ?_
            refine ih (k + 1) L2 (by omega) (fL.trans (f2.wide (fun a k q => by omega))) (fun j hj => ?_)
            by_cases cj : j = k
            · rw [cj]; exact e2
            · exact (eL j (by omega)).kept (hL j (by omega)).2.1 (f2 _ _ (by omega)) (f2 _ _ (by omega)) (fun i _ _ => f2 _ _ (by omega))
        exact V_loc [some (.inr (.inr y)), some (.inl 0), some (.inl ((0 : Nat) : Int))] rfl (key _ 0 K (Nat.zero_add _) Fr.rf (fun j hj => absurd hj (by omega)))
      · refine V_run D [] 82 rfl trivial ?_
        refine V_ige D 106 rfl rfl (by omega) (by omega) (fun q => absurd q (by omega)) (fun _ => ?_)
        refine V_run D [79] 79 rfl ⟨hS.a5 (by omega), hS.a5 (by omega), hS.1, hS.1, trivial⟩ ?_
        rw [hS.n5, Int.toNat_natCast, show ((8 : Int) + (k : Int)).toNat = 8 + k by omega, cpy_out (by omega)]
        have st := cpy_step J (y + 5) 0 (fun k => J (y + 5) (8 + k)) k
        rw [Nat.zero_add] at st
        rw [st]
        exact V_loc [some (.inr (.inr y)), some (.inl 0), some (.inl ((k + 1 : Nat) : Int))] rfl ih
    · have hgt : 20 < (rd x.1).2.2.2.2.2.1.length := by
        by_cases hh : (rd x.1).2.2.2.2.2.1.length ≤ 20
        · exact absurd (gt.mpr hh) c1
        · omega
      refine V_run D [] 22 rfl trivial ?_
      refine V_ref1 D hS rfl lkX10_X10_refuses (by omega) 30 rfl rfl rfl ⟨Nat.le_refl _, Nat.le_refl _⟩ ?_
      refine V_run D [] 29 rfl trivial ?_
      exact V_iret D rfl rfl (no 1 _ 0 (by unfold dRead; rw [if_neg (by omega), if_pos hgt]) rfl)
  · refine V_ne D 21 rfl rfl (by omega) (fun _ => ?_) (fun q => absurd q (by omega))
    refine V_run D [] 22 rfl trivial ?_
    refine V_ref0 D hS rfl lkX10_X10_refuses 30 rfl rfl rfl ⟨Nat.le_refl _, Nat.le_refl _⟩ ?_
    refine V_run D [] 31 rfl trivial ?_
    refine V_le D 37 rfl rfl (by omega) (fun q => absurd q (by omega)) (fun _ => ?_)
    refine V_run D [] 36 rfl trivial ?_
    exact V_iret D rfl rfl (no 0 _ (rd x.1).1 (by unfold dRead; rw [if_pos (by omega)]) (by rw [Int.neg_neg]; rfl))
end XRef12
