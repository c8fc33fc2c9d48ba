/-- the reference, while it is made: its first n arrays -/
def MI (w : Int) (y n : Nat) (T0 : xY) (I0 : xI) (N0 : xN) (T : xY) (I : xI) (N : xN) : Prop := Ag y T0 I0 N0 T I N ∧ T y = some (.inr 10) ∧ (∀ k, I y k = if k = 12 then w else 0) ∧ ∀ e ∈ mda.take n, N y e.1 = y + e.2.1 ∧ T (y + e.2.1) = some (.inl (1, e.2.2)) ∧ I (y + e.2.1) = fun _ => 0
section XRef24
variable {Γ : xG} {E : xE} {T T0 : xY} {I I0 : xI} {N N0 : xN} {z y lev mc ms ce sl pc idx : Nat} {Q : State → Prop} {lv : xL}
theorem MI.next {n f l : Nat} {w : Int} (h : MI w y n T0 I0 N0 T I N) (hm : mda.take (n + 1) = mda.take n ++ [(f, n + 1, l)]) (h1 : ∀ e ∈ mda.take n, e.2.1 ≤ n ∧ e.1 ≠ f) : MI w y (n + 1) T0 I0 N0 (va_up T (y + (n + 1)) (some (.inl (1, l)))) (va_up I (y + (n + 1)) (fun _ => 0)) (xup (va_up N (y + (n + 1)) (fun _ => 0)) y f (y + (n + 1))) := by
  obtain ⟨a, b, c, d⟩ := h
  refine ⟨(a.new (by omega)).putN (Nat.le_refl _), by rw [up_ne (by omega)]; exact b, fun k => by rw [up_ne (by omega)]; exact c k, fun e he => ?_⟩
  rw [hm] at he
  rcases List.mem_append.mp he with he | he
  · obtain ⟨d1, d2, d3⟩ := d e he
    obtain ⟨e1, e2⟩ := h1 e he
    exact ⟨by rw [xup_j e2, up_ne (by omega)]; exact d1, by rw [up_ne (by omega)]; exact d2, by rw [up_ne (by omega)]; exact d3⟩
  · rw [List.mem_singleton.mp he]
    exact ⟨xup_f, up_at, up_at⟩
theorem V_mi (D : xD Γ E mX10_init lev mc ms) (n f l : Nat) (hm : mda.take (n + 1) = mda.take n ++ [(f, n + 1, l)]) (h1 : ∀ e ∈ mda.take n, e.2.1 ≤ n ∧ e.1 ≠ f) {ty : ArrayType} (hf : xfe mX10_init pc = some (.newarray ty, 2)) (hk : newarray.typeOf ty = xat 1) (hl : l ≤ 1000000) (hc : ce + 1 ≤ mc ∧ sl + l ≤ ms)
    (hp : xfe mX10_init (pc + 2) = some (.putfield idx, 3)) (hfr : (xfr 10).lookup idx = some (10, f, false)) (hfin : (xTT 10 f).2.2.2 = true) (hown : (xTT 10 f).1 = xRn 10) (hk1 : xfk 10 f = 1) {w : Int} (h : MI w y n T0 I0 N0 T I N)
    (k : ∀ T' I' N', MI w y (n + 1) T0 I0 N0 T' I' N' → V Γ E Q (y + (n + 1) + 1) T' I' N' (ce + 1) (sl + l) (pc + 2 + 3) lv []) : V Γ E Q (y + (n + 1)) T I N ce sl pc lv [.inl (l : Int), .inr (.inr y)] := by
  refine V_newa D 1 hf ⟨by decide, hk⟩ (by omega) (by rw [Int.toNat_natCast]; exact hc) ?_
  rw [Int.toNat_natCast]
  refine V_putF (c := 10) (f := f) D hp hfr hfin hown rfl hk1 (by rw [up_ne (by omega)]; exact h.2.1) ?_
  exact k _ _ _ (h.next hm h1)
theorem r_init (hy : 0 < y) (hT : T y = some (.inr 10)) (hI : I y = fun _ => 0) : Spec mX10_init 1 [.inr (.inr y)] (y + 1) T I N 23 323586 (InP T I N y 24 (fun T' I' N' => MdAt T' I' N' y dk0)) := by
  refine Spec_of okX10_init (by decide) (by decide) (Nat.le_of_ble_eq_true rfl) fun Γ E D => ?_
  have h0 : MI 0 y 0 T I N T I N := ⟨Ag.rf, hT, fun k => by rw [hI]; split <;> rfl, fun e he => by simp at he⟩
  refine V_run D [] 1 rfl trivial ?_
  refine V_obj D rfl lkX10_obj hy rfl ?_
  refine V_run D [] 6 rfl trivial ?_
  refine V_mi (ce := 0) (sl := 0) D 0 1 3 rfl (by decide) rfl rfl (by decide) (by decide) rfl rfl rfl rfl rfl h0 (fun T1 I1 N1 h1 => ?_)
  refine V_run D [] 13 rfl trivial ?_
  refine V_mi (ce := 1) (sl := 3) D 1 2 3 rfl (by decide) rfl rfl (by decide) (by decide) rfl rfl rfl rfl rfl h1 (fun T2 I2 N2 h2 => ?_)
  refine V_run D [] 20 rfl trivial ?_
  refine V_mi (ce := 2) (sl := 6) D 2 3 3 rfl (by decide) rfl rfl (by decide) (by decide) rfl rfl rfl rfl rfl h2 (fun T3 I3 N3 h3 => ?_)
  refine V_run D [] 27 rfl trivial ?_
  refine V_mi (ce := 3) (sl := 9) D 3 4 3 rfl (by decide) rfl rfl (by decide) (by decide) rfl rfl rfl rfl rfl h3 (fun T4 I4 N4 h4 => ?_)
  refine V_run D [] 35 rfl trivial ?_
  refine V_mi (ce := 4) (sl := 12) D 4 5 24 rfl (by decide) rfl rfl (by decide) (by decide) rfl rfl rfl rfl rfl h4 (fun T5 I5 N5 h5 => ?_)
  refine V_run D [] 42 rfl trivial ?_
  refine V_mi (ce := 5) (sl := 36) D 5 6 3 rfl (by decide) rfl rfl (by decide) (by decide) rfl rfl rfl rfl rfl h5 (fun T6 I6 N6 h6 => ?_)
  refine V_run D [] 50 rfl trivial ?_
  refine V_mi (ce := 6) (sl := 39) D 6 7 63 rfl (by decide) rfl rfl (by decide) (by decide) rfl rfl rfl rfl rfl h6 (fun T7 I7 N7 h7 => ?_)
  refine V_run D [] 58 rfl trivial ?_
  refine V_mi (ce := 7) (sl := 102) D 7 8 63 rfl (by decide) rfl rfl (by decide) (by decide) rfl rfl rfl rfl rfl h7 (fun T8 I8 N8 h8 => ?_)
  refine V_run D [] 67 rfl trivial ?_
  refine V_mi (ce := 8) (sl := 165) D 8 9 25200 rfl (by decide) rfl rfl (by decide) (by decide) rfl rfl rfl rfl rfl h8 (fun T9 I9 N9 h9 => ?_)
  refine V_run D [] 74 rfl trivial ?_
  refine V_mi (ce := 9) (sl := 25365) D 9 10 3 rfl (by decide) rfl rfl (by decide) (by decide) rfl rfl rfl rfl rfl h9 (fun T10 I10 N10 h10 => ?_)
  refine V_run D [] 83 rfl trivial ?_
  refine V_mi (ce := 10) (sl := 25368) D 10 11 1200 rfl (by decide) rfl rfl (by decide) (by decide) rfl rfl rfl rfl rfl h10 (fun T11 I11 N11 h11 => ?_)
  refine V_run D [] 97 rfl ⟨h11.2.1, trivial⟩ ?_
  have h11b : MI (-1) y 11 T I N T11 (xup I11 y 12 (-1)) N11 := by
    refine ⟨h11.1.putI (Nat.le_refl _), h11.2.1, fun k => ?_, fun e he => ⟨(h11.2.2.2 e he).1, (h11.2.2.2 e he).2.1, ?_⟩⟩
    · by_cases hc : k = 12
      · rw [xup_ap, if_pos ⟨rfl, hc⟩, if_pos hc]
      · rw [xup_j hc, h11.2.2.1 k, if_neg hc, if_neg hc]
    · have : 1 ≤ e.2.1 := (show ∀ e ∈ mda.take 11, 1 ≤ e.2.1 by decide) e he
      rw [xup_ne (by omega)]; exact (h11.2.2.2 e he).2.2
  generalize xup I11 y 12 (-1) = J11 at *
  refine V_mi (ce := 11) (sl := 26568) D 11 14 2000 rfl (by decide) rfl rfl (by decide) (by decide) rfl rfl rfl rfl rfl h11b (fun T12 I12 N12 h12 => ?_)
  refine V_run D [] 105 rfl trivial ?_
  refine V_mi (ce := 12) (sl := 28568) D 12 18 16 rfl (by decide) rfl rfl (by decide) (by decide) rfl rfl rfl rfl rfl h12 (fun T13 I13 N13 h13 => ?_)
  refine V_run D [] 114 rfl trivial ?_
  refine V_mi (ce := 13) (sl := 28584) D 13 19 320 rfl (by decide) rfl rfl (by decide) (by decide) rfl rfl rfl rfl rfl h13 (fun T14 I14 N14 h14 => ?_)
  refine V_run D [] 122 rfl trivial ?_
  refine V_mi (ce := 14) (sl := 28904) D 14 20 128000 rfl (by decide) rfl rfl (by decide) (by decide) rfl rfl rfl rfl rfl h14 (fun T15 I15 N15 h15 => ?_)
  refine V_run D [] 130 rfl trivial ?_
  refine V_mi (ce := 15) (sl := 156904) D 15 21 16 rfl (by decide) rfl rfl (by decide) (by decide) rfl rfl rfl rfl rfl h15 (fun T16 I16 N16 h16 => ?_)
  refine V_run D [] 139 rfl trivial ?_
  refine V_mi (ce := 16) (sl := 156920) D 16 22 6400 rfl (by decide) rfl rfl (by decide) (by decide) rfl rfl rfl rfl rfl h16 (fun T17 I17 N17 h17 => ?_)
  refine V_run D [] 147 rfl trivial ?_
  refine V_mi (ce := 17) (sl := 163320) D 17 23 16 rfl (by decide) rfl rfl (by decide) (by decide) rfl rfl rfl rfl rfl h17 (fun T18 I18 N18 h18 => ?_)
  refine V_run D [] 155 rfl trivial ?_
  refine V_mi (ce := 18) (sl := 163336) D 18 27 10 rfl (by decide) rfl rfl (by decide) (by decide) rfl rfl rfl rfl rfl h18 (fun T19 I19 N19 h19 => ?_)
  refine V_run D [] 163 rfl trivial ?_
  refine V_mi (ce := 19) (sl := 163346) D 19 28 80 rfl (by decide) rfl rfl (by decide) (by decide) rfl rfl rfl rfl rfl h19 (fun T20 I20 N20 h20 => ?_)
  refine V_run D [] 171 rfl trivial ?_
  refine V_mi (ce := 20) (sl := 163426) D 20 29 80 rfl (by decide) rfl rfl (by decide) (by decide) rfl rfl rfl rfl rfl h20 (fun T21 I21 N21 h21 => ?_)
  refine V_run D [] 179 rfl trivial ?_
  refine V_mi (ce := 21) (sl := 163506) D 21 30 80 rfl (by decide) rfl rfl (by decide) (by decide) rfl rfl rfl rfl rfl h21 (fun T22 I22 N22 h22 => ?_)
  refine V_run D [] 187 rfl trivial ?_
  refine V_mi (ce := 22) (sl := 163586) D 22 31 160000 rfl (by decide) rfl rfl (by decide) (by decide) rfl rfl rfl rfl rfl h22 (fun T23 I23 N23 h23 => ?_)
  refine V_wide (k := 23) (n := 323586) (by decide) (by decide) ?_
  have z0 : ∀ o, (∃ e ∈ mda, e.2.1 = o) → ∀ k, I23 (y + o) k = 0 := fun o ho k => by
    obtain ⟨e, he, rfl⟩ := ho
    rw [(h23.2.2.2 e he).2.2]
  have i0 : ∀ k, k ≠ 12 → I23 y k = 0 := fun k hk => by rw [h23.2.2.1 k, if_neg hk]
  refine V_vret D rfl rfl ⟨rfl, rfl, h23.1, ⟨h23.2.1, fun e he => ⟨(h23.2.2.2 e he).1, (h23.2.2.2 e he).2.1⟩⟩, ⟨⟨i0 _ (by decide), by simp [dk0], BsOk.nil⟩, Rw.nil⟩, ⟨⟨⟨z0 1 (by decide) _, z0 2 (by decide) _, z0 3 (by decide) _⟩, ⟨z0 4 (by decide) _, Rw.nil⟩, ⟨z0 6 (by decide) _, fun k hk => by simp [dk0] at hk⟩, z0 10 (by decide) _, Rw.nil⟩, by simp [dk0], ?_⟩, ⟨i0 _ (by decide), i0 _ (by decide), fun r hr => by simp [dk0, sv0] at hr⟩, ⟨i0 _ (by decide), i0 _ (by decide), i0 _ (by decide)⟩, fun p hp => ⟨z0 19 (by decide) _, fun k h1 h2 => by simp [dk0, sv0] at h2⟩⟩
  show I23 y 12 = -1
  rw [h23.2.2.1, if_pos rfl]
end XRef24
