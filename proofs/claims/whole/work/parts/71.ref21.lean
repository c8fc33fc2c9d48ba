section XRef21
variable {Γ : xG} {E : xE} {M : xM} {z : Nat} {T : xY} {I I' J : xI} {N : xN} {y m lev mc ms ce sl pc idx i p r n k : Nat} {os : List Opt} {g : Msg} {x : Dk} {xs v : List Int} {Q : State → Prop} {lv : xL} {q : Opt} {rs : List Res} {tags : Int} {s s' : Sv}
theorem MdAt.setS (h : MdAt T I N y x) (hok : MOk x.2.1.1) (hk : ∀ a k, (a = y ∧ k = 12) ∨ Mb y 0 a k → I' a k = I a k) (hH : HH I' y xs) (hR : RR I' y s'.1.1 s'.1.2) (hC : CC I' y s'.2.1) (hS : SS I' y s'.2.2) : MdAt T I' N y (xs, x.2.1, s') := by
  obtain ⟨g1, g2, ⟨g3, g4, g5⟩, g6, g7, g8⟩ := h
  exact ⟨g1, hH, ⟨g3.kept hok g4 (fun a k q => hk a k (Or.inr q)), g4, g5.kept (hk _ _ (Or.inl ⟨rfl, rfl⟩))⟩, hR, hC, hS⟩
theorem r_nothing (h : MdS T N y) : Spec mX10_nothing 0 [.inr (.inr y)] z T I N 0 0 (xMd z T N fun r I' => r = some (.inl (-1)) ∧ I' = xup I y 13 0) := by
  refine Spec_of okX10_nothing (by decide) (by decide) (Nat.le_of_ble_eq_true rfl) fun Γ E D => ?_
  refine V_run D [] 6 rfl ⟨h.1, trivial⟩ ?_
  exact V_iret D rfl rfl ⟨rfl, rfl, rfl, rfl, rfl⟩
theorem bg_at {a b c : Int} (hm : m < 3) : MM (bgI I y m a b c) y m (a, b, c, [], [], []) := by
  refine ⟨⟨?_, ?_, ?_⟩, ⟨?_, Rw.nil⟩, ⟨?_, fun k hk => by simp at hk⟩, ?_, Rw.nil⟩ <;> unfold bgI <;> (simp only [xup_ap, true_and, and_true, if_true, if_false]; repeat (first | rw [if_neg (by omega)] | rw [if_pos (by omega)])) <;> rfl
theorem bg_out {a b c : Int} {u j : Nat} (h : ¬ Mb y m u j) : bgI I y m a b c u j = I u j := by
  unfold Mb Ob at h
  unfold bgI
  (simp only [xup_ap, true_and, and_true, if_true, if_false]; repeat (first | rw [if_neg (by omega)] | rw [if_pos (by omega)]))
theorem r_resets (h : MdS T N y) (hid : I (y + 3) 1 = g.2.2.1) (hb : 0 ≤ g.2.2.1 ∧ g.2.2.1 ≤ 65535) : Spec mX10_resets 3 [.inr (.inr y)] z T I N 0 0 (xMd z T N fun r I' => r = some (.inl 0) ∧ Fr (fun a k => Hb y a k ∨ Mb y 2 a k) I I' ∧ HH I' y (wr (3, 0, g.2.2.1, [], [], []))) := by
  have hok : MOk (3, 0, g.2.2.1, [], [], []) := ⟨by dsimp only; omega, by dsimp only; omega, hb, ⟨BsOk.nil, by simp⟩, trivial, BsOk.nil, by simp⟩
  refine Spec_of okX10_resets (by decide) (by decide) (Nat.le_of_ble_eq_true rfl) fun Γ E D => ?_
  refine V_run D [] 10 rfl ⟨h.a3 (by omega), h.1, trivial⟩ ?_
  rw [h.n3, show ((1 : Int)).toNat = 1 from rfl, hid]
  refine V_mdV (av := [.inl ((2 : Nat) : Int), .inl 3, .inl 0, .inl g.2.2.1]) (st := []) D mwX10_begins rfl lkX10_X10_begins (r_begins h (by omega)) h.1 rfl ⟨Nat.le_refl _, Nat.le_refl _⟩ (fun r J0 P0 => ?_)
  obtain ⟨rfl, rfl⟩ := P0
  refine V_run D [] 15 rfl trivial ?_
  refine V_mdV (av := [.inl ((2 : Nat) : Int)]) (st := []) D mwX10_writes rfl lkX10_X10_writes (r_writes h (by omega) (bg_at (by omega)) hok (by simp) (by rw [wr_len]; simp [wos])) h.1 rfl ⟨Nat.le_refl _, Nat.le_refl _⟩ (fun r I1 P1 => ?_)
  obtain ⟨rfl, f1, h1⟩ := P1
  refine V_run D [] 19 rfl trivial ?_
  exact V_iret D rfl rfl ⟨rfl, rfl, rfl, rfl, fun a k q => by rw [f1 a k (fun r => q (Or.inl r)), bg_out (fun r => q (Or.inr r))], h1⟩
/-- the answer that was kept comes once more -/
theorem ls_rep {pe at1 : Nat} {c2 c3 : Int} (D : xD Γ E mX10_serve 4 0 0) (h : MdS T N y) (hB : SB I y at1 q) (ha : at1 < 80) (hl : q.2.length ≤ 421) (hb : BsOk q.2) {rp : Int} (hrp : I y 25 = rp)
    (K : ∀ J, Fr (fun a k => Hb y a k ∨ (a = y ∧ k = 25)) I J → J y 25 = rp + 1 → HH J y q.2 → V Γ E Q z T J N 0 0 205 (xlv [some (.inr (.inr y))]) [.inl (bat q.2 1)]) :
    V Γ E Q z T I N 0 0 138 (xlv [some (.inr (.inr y)), some (.inl (pe : Int)), some (.inl c2), some (.inl c3), some (.inl (at1 : Int))]) [] := by
  obtain ⟨b1, b2, b3, b4⟩ := hB
  have e29 : xup I y 25 (rp + 1) (y + 21) at1 = (q.2.length : Int) := by rw [xup_ap, if_neg (by omega)]; exact b2
  refine V_run D [162] 162 rfl ⟨h.1, h.a21 (by omega), h.1, h.1, h.1, trivial⟩ ?_
  rw [h.n21, hrp, Int.toNat_natCast, e29]
  generalize hJ : xup (xup I y 25 (rp + 1)) y 13 (q.2.length : Int) = J
  have c13 : ∀ n, cpy J (y + 12) 0 (fun i => J (y + 23) (2000 * at1 + i)) n y 13 = (q.2.length : Int) := fun n => by rw [cpy_out (by omega), ← hJ]; (simp only [xup_ap, true_and, and_true, if_true, if_false]; repeat (first | rw [if_neg (by omega)] | rw [if_pos (by omega)]))
  rw [← cpy_0 J (y + 12) 0 (fun i => J (y + 23) (2000 * at1 + i))]
  refine V_loc [some (.inr (.inr y)), some (.inl (pe : Int)), some (.inl c2), some (.inl c3), some (.inl (at1 : Int)), some (.inl ((0 : Nat) : Int))] rfl ?_
  refine xdn (P := fun i => V Γ E Q z T (cpy J (y + 12) 0 (fun i => J (y + 23) (2000 * at1 + i)) i) N 0 0 162 (xlv [some (.inr (.inr y)), some (.inl (pe : Int)), some (.inl c2), some (.inl c3), some (.inl (at1 : Int)), some (.inl (i : Int))]) []) q.2.length ?_ (fun i hi ih => ?_)
  · refine V_run D [] 168 rfl ⟨h.1, trivial⟩ ?_
    rw [c13]
    refine V_ige D 198 rfl rfl (by omega) (by omega) (fun _ => ?_) (fun q => absurd q (by omega))
    have c22 : cpy J (y + 12) 0 (fun i => J (y + 23) (2000 * at1 + i)) q.2.length (y + 22) at1 = bat q.2 1 := by rw [cpy_out (by omega), ← hJ, ← b3]; (simp only [xup_ap, true_and, and_true, if_true, if_false]; repeat (first | rw [if_neg (by omega)] | rw [if_pos (by omega)]))
    refine V_run D [] 205 rfl ⟨h.a22 (by omega), h.1, trivial⟩ ?_
    rw [h.n22, Int.toNat_natCast, c22]
    refine V_loc [some (.inr (.inr y))] rfl (K _ (fun a k q => ?_) ?_ ⟨⟨c13 _, by omega, hb⟩, fun j hj => ?_⟩)
    · unfold Hb at q
      rw [cpy_out (by omega), ← hJ]; (simp only [xup_ap, true_and, and_true, if_true, if_false]; repeat (first | rw [if_neg (by omega)] | rw [if_pos (by omega)]))
    · rw [cpy_out (by omega), ← hJ]; (simp only [xup_ap, true_and, and_true, if_true, if_false]; repeat (first | rw [if_neg (by omega)] | rw [if_pos (by omega)]))
    · rw [cpy_in hj, ← hJ, xup_ap, if_neg (by omega), xup_ap, if_neg (by omega), b4 j hj]
  · refine V_run D [] 168 rfl ⟨h.1, trivial⟩ ?_
    rw [c13]
    refine V_ige D 198 rfl rfl (by omega) (by omega) (fun q => absurd q (by omega)) (fun _ => ?_)
    refine V_run D [162] 162 rfl ⟨h.a12 (by omega), h.a23 (by omega), h.1, h.1, trivial⟩ ?_
    rw [h.n12, h.n23, Int.toNat_natCast, show (2000 * (at1 : Int) + (i : Int)).toNat = 2000 * at1 + i by omega, cpy_out (by omega)]
    have st := cpy_step J (y + 12) 0 (fun i => J (y + 23) (2000 * at1 + i)) i
    rw [Nat.zero_add] at st
    rw [st]
    exact V_loc [some (.inr (.inr y)), some (.inl (pe : Int)), some (.inl c2), some (.inl c3), some (.inl (at1 : Int)), some (.inl ((i + 1 : Nat) : Int))] rfl ih
set_option maxRecDepth 8000 in
/-- an answer is kept -/
theorem ls_keep {pe : Nat} {c2 id : Int} (D : xD Γ E mX10_serve 4 0 0) (h : MdS T N y) (hp : pe < 10) (hH : HH I y xs) (hl : xs.length ≤ 421) (hc : I (y + 2) 2 = bat xs 1) {n : Nat} (hn : I (y + 19) pe = (n : Int)) (hnb : n < 2147483648)
    (K : ∀ J, Fr (fun a k => (a = y + 19 ∧ k = pe) ∨ ((a = y + 20 ∨ a = y + 21 ∨ a = y + 22) ∧ k = 8 * pe + n % 8) ∨ (a = y + 23 ∧ 2000 * (8 * pe + n % 8) ≤ k ∧ k < 2000 * (8 * pe + n % 8) + 2000)) I J → J (y + 19) pe = (n : Int) + 1 → SB J y (8 * pe + n % 8) (id, xs) → V Γ E Q z T J N 0 0 465 (xlv [some (.inr (.inr y))]) [.inl (bat xs 1)]) :
    V Γ E Q z T I N 0 0 362 (xlv [some (.inr (.inr y)), some (.inl (pe : Int)), some (.inl c2), some (.inl id)]) [] := by
  obtain ⟨⟨h1, h2, h3⟩, h4⟩ := _root_.id hH
  have ea : (8 * (pe : Int) + (n : Int) % 8) = ((8 * pe + n % 8 : Nat) : Int) := by omega
  have ha : 8 * pe + n % 8 < 80 := by omega
  refine V_run D [378] 378 rfl ⟨⟨⟨by rw [h.n19, Int.toNat_natCast, hn]; omega, by rw [h.n19, Int.toNat_natCast, hn]; omega⟩, by omega, by omega⟩, h.a19 (by omega), h.1, trivial⟩ ?_
  rw [h.n19, Int.toNat_natCast, hn, ea]
  generalize hat : 8 * pe + n % 8 = at1 at *
  have e13 : ∀ u v w : Int, xup (xup (xup I (y + 19) pe u) (y + 20) at1 v) (y + 22) at1 w y 13 = (xs.length : Int) := fun u v w => by rw [← h1]; (simp only [xup_ap, true_and, and_true, if_true, if_false]; repeat (first | rw [if_neg (by omega)] | rw [if_pos (by omega)]))
  have e2 : ∀ u v : Int, xup (xup I (y + 19) pe u) (y + 20) at1 v (y + 2) 2 = bat xs 1 := fun u v => by rw [← hc]; (simp only [xup_ap, true_and, and_true, if_true, if_false]; repeat (first | rw [if_neg (by omega)] | rw [if_pos (by omega)]))
  refine V_run D [423] 423 rfl ⟨h.a21 (by omega), h.1, h.1, h.a22 (by omega), h.a2 (by omega), h.1, h.1, h.a20 (by omega), h.1, h.a19 (by omega), h.a19 (by omega), h.1, trivial⟩ ?_
  rw [h.n2, h.n19, h.n20, h.n21, h.n22, Int.toNat_natCast, Int.toNat_natCast, show ((2 : Int)).toNat = 2 from rfl, hn, e2, e13]
  generalize hJ : xup (xup (xup (xup I (y + 19) pe ((n : Int) + 1)) (y + 20) at1 id) (y + 22) at1 (bat xs 1)) (y + 21) at1 (xs.length : Int) = J
  have c13 : ∀ n, cpy J (y + 23) (2000 * at1) (fun i => J (y + 12) i) n y 13 = (xs.length : Int) := fun n => by rw [cpy_out (by omega), ← hJ, ← h1]; (simp only [xup_ap, true_and, and_true, if_true, if_false]; repeat (first | rw [if_neg (by omega)] | rw [if_pos (by omega)]))
  rw [← cpy_0 J (y + 23) (2000 * at1) (fun i => J (y + 12) i)]
  refine V_loc [some (.inr (.inr y)), some (.inl (pe : Int)), some (.inl c2), some (.inl id), some (.inl (at1 : Int)), some (.inl ((0 : Nat) : Int))] rfl ?_
  refine xdn (P := fun i => V Γ E Q z T (cpy J (y + 23) (2000 * at1) (fun i => J (y + 12) i) i) N 0 0 423 (xlv [some (.inr (.inr y)), some (.inl (pe : Int)), some (.inl c2), some (.inl id), some (.inl (at1 : Int)), some (.inl (i : Int))]) []) xs.length ?_ (fun i hi ih => ?_)
  · refine V_run D [] 429 rfl ⟨h.1, trivial⟩ ?_
    rw [c13]
    refine V_ige D 459 rfl rfl (by omega) (by omega) (fun _ => ?_) (fun q => absurd q (by omega))
    have c2' : cpy J (y + 23) (2000 * at1) (fun i => J (y + 12) i) xs.length (y + 2) 2 = bat xs 1 := by rw [cpy_out (by omega), ← hJ, ← hc]; (simp only [xup_ap, true_and, and_true, if_true, if_false]; repeat (first | rw [if_neg (by omega)] | rw [if_pos (by omega)]))
    refine V_run D [] 465 rfl ⟨h.a2 (by omega), h.1, trivial⟩ ?_
    rw [h.n2, show ((2 : Int)).toNat = 2 from rfl, c2']
    refine V_loc [some (.inr (.inr y))] rfl (K _ (fun a k q => ?_) ?_ ⟨?_, ?_, ?_, fun j hj => ?_⟩)
    · rw [cpy_out (by omega), ← hJ]; (simp only [xup_ap, true_and, and_true, if_true, if_false]; repeat (first | rw [if_neg (by omega)] | rw [if_pos (by omega)]))
    · rw [cpy_out (by omega), ← hJ]; (simp only [xup_ap, true_and, and_true, if_true, if_false]; repeat (first | rw [if_neg (by omega)] | rw [if_pos (by omega)]))
    · rw [cpy_out (by omega), ← hJ]; (simp only [xup_ap, true_and, and_true, if_true, if_false]; repeat (first | rw [if_neg (by omega)] | rw [if_pos (by omega)]))
    · rw [cpy_out (by omega), ← hJ]; (simp only [xup_ap, true_and, and_true, if_true, if_false]; repeat (first | rw [if_neg (by omega)] | rw [if_pos (by omega)]))
    · rw [cpy_out (by omega), ← hJ]; (simp only [xup_ap, true_and, and_true, if_true, if_false]; repeat (first | rw [if_neg (by omega)] | rw [if_pos (by omega)]))
    · have := h4 j hj
      rw [Nat.zero_add] at this
      dsimp only at hj ⊢
      rw [cpy_in hj, ← this, ← hJ]; (simp only [xup_ap, true_and, and_true, if_true, if_false]; repeat (first | rw [if_neg (by omega)] | rw [if_pos (by omega)]))
  · refine V_run D [] 429 rfl ⟨h.1, trivial⟩ ?_
    rw [c13]
    refine V_ige D 459 rfl rfl (by omega) (by omega) (fun q => absurd q (by omega)) (fun _ => ?_)
    refine V_run D [423] 423 rfl ⟨h.a23 (by omega), h.a12 (by omega), h.1, h.1, trivial⟩ ?_
    rw [h.n12, h.n23, Int.toNat_natCast, show (2000 * (at1 : Int) + (i : Int)).toNat = 2000 * at1 + i by omega, cpy_out (by omega)]
    have st := cpy_step J (y + 23) (2000 * at1) (fun i => J (y + 12) i) i
    rw [st]
    exact V_loc [some (.inr (.inr y)), some (.inl (pe : Int)), some (.inl c2), some (.inl id), some (.inl (at1 : Int)), some (.inl ((i + 1 : Nat) : Int))] rfl ih
end XRef21
