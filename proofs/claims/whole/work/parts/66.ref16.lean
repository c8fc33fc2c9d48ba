theorem zCmp_ge {x y : Int} (h : y ≤ x) : 0 ≤ zCmp x y := by
  unfold zCmp
  split
  · omega
  · rw [if_pos (by omega)]; omega
theorem hib_fwb {t : Int} (h : 0 ≤ t ∧ t < 16777216) :
    (if 0 < t / (2 ^ 0 : Nat) then (if 0 < t / (2 ^ 8 : Nat) then (if 0 < t / (2 ^ 16 : Nat) then ([] : List Int) ++ [t / (2 ^ 16 : Nat) % 256] else []) ++ [t / (2 ^ 8 : Nat) % 256] else (if 0 < t / (2 ^ 16 : Nat) then ([] : List Int) ++ [t / (2 ^ 16 : Nat) % 256] else [])) ++ [t / (2 ^ 0 : Nat) % 256] else (if 0 < t / (2 ^ 8 : Nat) then (if 0 < t / (2 ^ 16 : Nat) then ([] : List Int) ++ [t / (2 ^ 16 : Nat) % 256] else []) ++ [t / (2 ^ 8 : Nat) % 256] else (if 0 < t / (2 ^ 16 : Nat) then ([] : List Int) ++ [t / (2 ^ 16 : Nat) % 256] else []))) = hib t (fwb t) := by
  have e0 : ((2 ^ 0 : Nat) : Int) = 1 := rfl
  have e8 : ((2 ^ 8 : Nat) : Int) = 256 := rfl
  have e16 : ((2 ^ 16 : Nat) : Int) = 65536 := rfl
  rw [e0, e8, e16, Int.ediv_one]
  rcases fwb_cases h.1 with ⟨c, e⟩ | ⟨c1, c2, e⟩ | ⟨c1, c2, e⟩ | ⟨c1, c2, e⟩ | ⟨c, e⟩
  · rw [e, hib0, if_neg (by omega), if_neg (by omega), if_neg (by omega)]
  · rw [e, hib1, if_pos (by omega), if_neg (by omega), if_neg (by omega)]; rfl
  · rw [e, hib2, if_pos (by omega), if_pos (by omega), if_neg (by omega)]; rfl
  · rw [e, hib3, if_pos (by omega), if_pos (by omega), if_pos (by omega)]; rfl
  · omega
section XRef16
variable {Γ : xG} {E : xE} {M : xM} {z : Nat} {T : xY} {I J : xI} {N : xN} {y m lev mc ms ce sl pc idx i p r n : Nat} {os : List Opt} {g : Msg} {w : Res} {xs v : List Int} {Q : State → Prop} {lv : xL} {q : Opt} {rs : List Res}
def gtP (z : Nat) (T : xY) (N : xN) (I : xI) (y : Nat) (a : Int × List Opt × List Int) : xPo := xMd z T N fun rr I' => rr = some (.inl a.1) ∧ Fr (Ab y) I I' ∧ AA I' y a.2
/-- a block of the contents -/
theorem lg_blk {x bl a4 : Int} (D : xD Γ E mX10_get 2 0 0) (h : MdS T N y) (hr : r < 16) (hR : RB I y r w) (hx : ROk w) (hA : AA I y ([], [])) (hb : 0 ≤ x ∧ x ≤ 1048575 ∧ x % 8 ≤ 6) (h4 : a4 = (w.2.1.length : Int)) :
    V Γ E (xQ Γ E (gtP z T N I y (blk x w)) 0 0) z T I N 0 0 171 (xlv [some (.inr (.inr y)), some (.inl (r : Int)), some (.inr (.inl bl)), none, some (.inl a4), some (.inl (x % 8)), some (.inl (x / 16))]) [] := by
  subst h4
  obtain ⟨k1, k2, k3, k4, k5⟩ := hx
  obtain ⟨g1, g2, g3, g4, g5⟩ := hR
  have hz := blL_rng hb.2.2
  have hsz : zShl 16 (x % 8) = blL x := zShl16 (by omega)
  have hP0 : 0 ≤ x / 16 * blL x := Int.mul_nonneg (by omega) (by omega)
  have hP1 : x / 16 * blL x ≤ 65535 * 1024 := Int.mul_le_mul (by omega) (by omega) (by omega) (by omega)
  have hq : (w.2.1.length : Int) + blL x - 1 = (w.2.1.length : Int) + blL x - 1 := rfl
  have hdiv : (((w.2.1.length : Int) + blL x - 1) / blL x < x / 16 + 1) ↔ ((w.2.1.length : Int) ≤ x / 16 * blL x) := by
    rw [Int.ediv_lt_iff_lt_mul (by omega), Int.add_mul, Int.one_mul]; omega
  have hd0 : 0 ≤ ((w.2.1.length : Int) + blL x - 1) / blL x := Int.ediv_nonneg (by omega) (by omega)
  have hd1 : ((w.2.1.length : Int) + blL x - 1) / blL x ≤ (w.2.1.length : Int) + blL x - 1 := Int.ediv_le_self _ (by omega)
  -- the block is there
  have good : ¬ (0 < x / 16 ∧ (w.2.1.length : Int) - x / 16 * blL x ≤ 0) → V Γ E (xQ Γ E (gtP z T N I y (blk x w)) 0 0) z T I N 0 0 202 (xlv [some (.inr (.inr y)), some (.inl (r : Int)), some (.inr (.inl bl)), none, some (.inl (w.2.1.length : Int)), some (.inl (x % 8)), some (.inl (x / 16)), some (.inl (blL x))]) [] := fun hno => by
    have hlt : x / 16 * blL x ≤ (w.2.1.length : Int) := by
      by_cases c : 0 < x / 16
      · by_cases c2 : (w.2.1.length : Int) - x / 16 * blL x ≤ 0
        · exact absurd ⟨c, c2⟩ hno
        · omega
      · rw [show x / 16 = 0 by omega, Int.zero_mul]; omega
    have eb : blk x w = (69, [(4, hib w.2.2 2), (23, hib (blT x w.2.1.length) (fwb (blT x w.2.1.length)))], (w.2.1.drop (x / 16 * blL x).toNat).take (if blL x < (w.2.1.length : Int) - x / 16 * blL x then blL x else (w.2.1.length : Int) - x / 16 * blL x).toNat) := by unfold blk; rw [if_neg hno]
    rw [eb]
    have hT0 : 0 ≤ blT x w.2.1.length ∧ blT x w.2.1.length < 16777216 := by unfold blT; split <;> omega
    have s229 : ∀ en : Int, en = (if blL x < (w.2.1.length : Int) - x / 16 * blL x then x / 16 * blL x + blL x else (w.2.1.length : Int)) → V Γ E (xQ Γ E (gtP z T N I y (69, [(4, hib w.2.2 2), (23, hib (blT x w.2.1.length) (fwb (blT x w.2.1.length)))], (w.2.1.drop (x / 16 * blL x).toNat).take (if blL x < (w.2.1.length : Int) - x / 16 * blL x then blL x else (w.2.1.length : Int) - x / 16 * blL x).toNat)) 0 0) z T I N 0 0 231 (xlv [some (.inr (.inr y)), some (.inl (r : Int)), some (.inr (.inl bl)), none, some (.inl (w.2.1.length : Int)), some (.inl (x % 8)), some (.inl (x / 16)), some (.inl (blL x)), some (.inl (x / 16 * blL x)), some (.inl en)]) [] := fun en hen => by
      have hen2 : x / 16 * blL x ≤ en ∧ en ≤ (w.2.1.length : Int) := by rw [hen]; split <;> omega
      have hcount : (if blL x < (w.2.1.length : Int) - x / 16 * blL x then blL x else (w.2.1.length : Int) - x / 16 * blL x).toNat = en.toNat - (x / 16 * blL x).toNat := by rw [hen]; split <;> omega
      rw [hcount]
      generalize hfr : x / 16 * blL x = fr at *
      refine V_run D [] 233 rfl trivial ?_
      refine V_mdV (av := [.inl (r : Int)]) (st := []) D mwX10_tells rfl lkX10_X10_tells (r_tells h hr g5 k1 hA.1) h.1 rfl ⟨Nat.le_refl _, Nat.le_refl _⟩ (fun rr I1 P1 => ?_)
      obtain ⟨rfl, f1, o1⟩ := P1
      have s254 : ∀ m8 : Int, 16 * (x / 16) + m8 + x % 8 = blT x w.2.1.length → V Γ E (xQ Γ E (gtP z T N I y (69, [(4, hib w.2.2 2), (23, hib (blT x w.2.1.length) (fwb (blT x w.2.1.length)))], (w.2.1.drop fr.toNat).take (en.toNat - fr.toNat))) 0 0) z T I1 N 0 0 254 (xlv [some (.inr (.inr y)), some (.inl (r : Int)), some (.inr (.inl bl)), none, some (.inl (w.2.1.length : Int)), some (.inl (x % 8)), some (.inl (x / 16)), some (.inl (blL x)), some (.inl fr), some (.inl en)]) [.inl m8, .inl (16 * (x / 16))] := fun m8 hm8 => by
        have hL1 : OL [(4, hib w.2.2 2)] := fun k hk => by
          have : k = 0 := by simpa using hk
          subst this
          exact ⟨by show (0 : Int) ≤ 4 ∧ (4 : Int) ≤ 65535; omega, by show (hib w.2.2 2).length ≤ 400; rw [hib_len]; omega, hib_rng _ _⟩
        refine V_run D [] 264 rfl trivial ?_
        rw [hm8]
        refine V_mdV (av := [.inl ((2 : Nat) : Int), .inl 23]) (st := []) D mwX10_place rfl lkX10_X10_place (r_place h (by omega) o1 hL1 (by simp) (by omega)) h.1 rfl ⟨Nat.le_refl _, Nat.le_refl _⟩ (fun rr I2 P2 => ?_)
        obtain ⟨rfl, f2, o2⟩ := P2
        have o2' : OO I2 y 2 [(4, hib w.2.2 2), (23, [])] := o2
        generalize ht : blT x w.2.1.length = t at *
        have pb : ∀ u : Int, 0 ≤ u % 256 ∧ u % 256 < 256 := fun u => by omega
        have ok1 : ∀ u : Int, BsOk [u % 256] := fun u v hv => by rw [List.mem_singleton.mp hv]; omega
        have oka : (hib w.2.2 2).length ≤ 2 ∧ BsOk (hib w.2.2 2) := ⟨by rw [hib_len]; omega, hib_rng _ _⟩
        refine V_run D [273] 273 rfl trivial ?_
        refine V_loc [some (.inr (.inr y)), some (.inl (r : Int)), some (.inr (.inl bl)), none, some (.inl (w.2.1.length : Int)), some (.inl (x % 8)), some (.inl (x / 16)), some (.inl (blL x)), some (.inl fr), some (.inl en), some (.inl t), some (.inl ((21 * 2 + 1 : Nat) : Int)), some (.inl ((16 : Nat) : Int))] rfl ?_
        refine lg_byte (k := 16) D h hT0 (by omega) oka ⟨by simp, BsOk.nil⟩ o2' (fun I3 f3 o3 => ?_)
        refine lg_byte (k := 8) D h hT0 (by omega) oka ?_ o3 (fun I4 f4 o4 => ?_)
        · split
          · exact ⟨by simp, BsOk.nil.app (ok1 _)⟩
          · exact ⟨by simp, BsOk.nil⟩
        refine lg_byte (k := 0) D h hT0 (by omega) oka ?_ o4 (fun I5 f5 o5 => ?_)
        · split
          · split
            · exact ⟨by simp, (BsOk.nil.app (ok1 _)).app (ok1 _)⟩
            · exact ⟨by simp, BsOk.nil.app (ok1 _)⟩
          · split
            · exact ⟨by simp, BsOk.nil.app (ok1 _)⟩
            · exact ⟨by simp, BsOk.nil⟩
        rw [hib_fwb hT0] at o5
        refine V_run D [] 275 rfl trivial ?_
        refine V_lt D 307 rfl rfl (by decide) (fun _ => ?_) (fun q => absurd q (by decide))
        have F : Fr (Ob y 2) I I5 := (((f1.trans f2).trans f3).trans f4).trans f5
        have hv5 : Rw (I5 (y + 17)) (400 * r) w.2.1 := g4.kept (fun j _ => F _ _ (by unfold Ob; omega))
        obtain ⟨fn, rfl⟩ : ∃ fn : Nat, fr = (fn : Int) := ⟨fr.toNat, by omega⟩
        obtain ⟨e2, rfl⟩ : ∃ e2 : Nat, en = (e2 : Int) := ⟨en.toNat, by omega⟩
        rw [Int.toNat_natCast, Int.toNat_natCast]
        refine V_run D [] 313 rfl trivial ?_
        refine V_mdV (av := [.inl (r : Int), .inl (fn : Int), .inl (e2 : Int)]) (st := []) D mwX10_sends rfl lkX10_X10_sends (r_sends h hr hv5 k3 (by omega) (by omega)) h.1 rfl ⟨Nat.le_refl _, Nat.le_refl _⟩ (fun rr I6 P6 => ?_)
        obtain ⟨rfl, f6, p6, q6⟩ := P6
        refine V_run D [] 318 rfl trivial ?_
        refine V_iret D rfl rfl ⟨rfl, rfl, rfl, rfl, fun a k q => ?_, ?_, p6, q6⟩
        · rw [f6 a k (fun s => q (Or.inr s)), F a k (fun s => q (Or.inl s))]
        · refine o5.kept (fun j hj => ?_) (by simp) (fun a k q => f6 a k (by unfold Ob at q; omega))
          match j, hj with
          | 0, _ => exact ⟨by show (0 : Int) ≤ 4 ∧ (4 : Int) ≤ 65535; omega, by show (hib w.2.2 2).length ≤ 400; omega, oka.2⟩
          | 1, _ => exact ⟨by show (0 : Int) ≤ 23 ∧ (23 : Int) ≤ 65535; omega, by show (hib t (fwb t)).length ≤ 400; rw [hib_len]; have := fwb_cases hT0.1; omega, hib_rng _ _⟩
      refine V_run D [] 245 rfl trivial ?_
      refine V_ige D 253 rfl rfl (by omega) (by omega) (fun c => ?_) (fun c => ?_)
      · refine V_run D [254] 254 rfl trivial ?_
        refine s254 0 ?_
        unfold blT; rw [hfr, if_neg (by rw [hen] at c; split at c <;> omega)]
      · refine V_run D [254] 254 rfl trivial ?_
        refine s254 8 ?_
        unfold blT; rw [hfr, if_pos (by rw [hen] at c; split at c <;> omega)]
    refine V_run D [] 216 rfl trivial ?_
    refine V_ige D 227 rfl rfl (by omega) (by omega) (fun c => ?_) (fun c => ?_)
    · refine V_run D [231] 231 rfl trivial ?_
      exact V_loc [some (.inr (.inr y)), some (.inl (r : Int)), some (.inr (.inl bl)), none, some (.inl (w.2.1.length : Int)), some (.inl (x % 8)), some (.inl (x / 16)), some (.inl (blL x)), some (.inl (x / 16 * blL x)), some (.inl (w.2.1.length : Int))] rfl (s229 _ (by rw [if_neg (by omega)]))
    · refine V_run D [231] 231 rfl trivial ?_
      exact V_loc [some (.inr (.inr y)), some (.inl (r : Int)), some (.inr (.inl bl)), none, some (.inl (w.2.1.length : Int)), some (.inl (x % 8)), some (.inl (x / 16)), some (.inl (blL x)), some (.inl (x / 16 * blL x)), some (.inl (x / 16 * blL x + blL x))] rfl (s229 _ (by rw [if_pos (by omega)]))
  refine V_run D [] 180 rfl trivial ?_
  rw [hsz]
  refine V_le D 202 rfl rfl (by omega) (fun c => ?_) (fun c => ?_)
  · exact V_loc [some (.inr (.inr y)), some (.inl (r : Int)), some (.inr (.inl bl)), none, some (.inl (w.2.1.length : Int)), some (.inl (x % 8)), some (.inl (x / 16)), some (.inl (blL x))] rfl (good (by omega))
  · refine V_run D [] 195 rfl ⟨⟨⟨by omega, by omega⟩, by omega, by omega⟩, trivial⟩ ?_
    refine V_ilt D 202 rfl rfl (by omega) (by omega) (fun c2 => ?_) (fun c2 => ?_)
    · exact V_loc [some (.inr (.inr y)), some (.inl (r : Int)), some (.inr (.inl bl)), none, some (.inl (w.2.1.length : Int)), some (.inl (x % 8)), some (.inl (x / 16)), some (.inl (blL x))] rfl (good (fun hh => by have := hdiv.mpr (by omega); omega))
    · have hle := hdiv.mp (by omega)
      have eb : blk x w = (130, [], []) := by unfold blk; rw [if_pos (by omega)]
      rw [eb]
      refine V_run D [] 201 rfl trivial ?_
      exact V_iret D rfl rfl ⟨rfl, rfl, rfl, rfl, Fr.rf, hA⟩
theorem lg_get (D : xD Γ E mX10_get 2 0 0) (h : MdS T N y) (hO : OO I y 1 os) (hL : OL os) (hn : os.length ≤ 20) (hr : r < 16) (hR : RB I y r w) (hx : ROk w) (hA : AA I y ([], [])) (hb : hBad os = false) : ∀ d i, i + d = os.length → kno (os.take i) w.2.2 = false →
    V Γ E (xQ Γ E (gtP z T N I y (getA os w)) 0 0) z T I N 0 0 8 (xlv [some (.inr (.inr y)), some (.inl (r : Int)), some (.inr (.inl (bfold (-1) (os.take i)))), none, some (.inl ((21 * 1 + i : Nat) : Int))]) []
  | 0, i, hi, hk => by
    obtain rfl : i = os.length := by omega
    have hx0 := hx
    have hR0 := hR
    obtain ⟨k1, k2, k3, k4, k5⟩ := hx
    obtain ⟨g1, g2, g3, g4, g5⟩ := hR
    rw [List.take_length] at hk ⊢
    have hc : cnt 23 os ≤ 1 := by
      unfold hBad at hb
      simp only [Bool.or_eq_false_iff, decide_eq_false_iff_not] at hb
      omega
    have hbf := bfold_eq (b := -1) hc
    refine V_run D [] 19 rfl ⟨h.a6 (by omega), h.1, trivial⟩ ?_
    rw [h.n6, show ((1 : Int)).toNat = 1 from rfl, hO.1]
    refine V_ige D 98 rfl rfl (by omega) (by omega) (fun _ => ?_) (fun q => absurd q (by omega))
    by_cases c23 : fi 23 os < os.length
    · rw [if_pos c23] at hbf
      have hm : (od os (fi 23 os)).1 = 23 := fi_at c23
      have hr23 := hBad_23 hb (fun q hq => by
        obtain ⟨k, hk, e⟩ := List.getElem_of_mem hq
        have := (hL k hk).2.2
        rw [od_get hk, e] at this
        exact this) c23 hm
      have eg : getA os w = blk (wn (od os (fi 23 os)).2) w := by unfold getA; rw [hk, if_neg (by decide), if_pos c23]
      rw [hbf, eg]
      generalize wn (od os (fi 23 os)).2 = x at *
      refine V_run D [] 109 rfl ⟨⟨by constructor <;> omega, by decide⟩, h.a16 (by omega), h.1, trivial⟩ ?_
      rw [h.n16, Int.toNat_natCast, g3]
      refine V_ge D 135 rfl rfl (zCmp_in _ _) (fun _ => ?_) (fun q => (q (zCmp_ge (by omega))).elim)
      refine V_run D [] 138 rfl ⟨⟨by constructor <;> omega, by decide⟩, trivial⟩ ?_
      refine V_ge D 145 rfl rfl (zCmp_in _ _) (fun _ => ?_) (fun q => (q (zCmp_ge (by omega))).elim)
      refine V_run D [] 156 rfl ⟨⟨by constructor <;> omega, by decide⟩, ⟨by omega, by omega⟩, trivial⟩ ?_
      refine V_ge D 163 rfl rfl (zCmp_in _ _) (fun _ => ?_) (fun q => (q (zCmp_ge (by omega))).elim)
      refine V_run D [171] 171 rfl ⟨⟨by omega, by omega⟩, trivial⟩ ?_
      exact V_loc [some (.inr (.inr y)), some (.inl (r : Int)), some (.inr (.inl x)), none, some (.inl (w.2.1.length : Int)), some (.inl (x % 8)), some (.inl (x / 16))] rfl (lg_blk D h hr hR0 hx0 hA (by omega) rfl)
    · rw [if_neg c23] at hbf
      rw [hbf]
      refine V_run D [] 109 rfl ⟨⟨by decide, by decide⟩, h.a16 (by omega), h.1, trivial⟩ ?_
      rw [h.n16, Int.toNat_natCast, g3]
      refine V_ge D 135 rfl rfl (zCmp_in _ _) (fun q => absurd q (by decide)) (fun _ => ?_)
      refine V_run D [] 116 rfl trivial ?_
      refine V_igt D 135 rfl rfl (by omega) (by omega) (fun c => ?_) (fun c => ?_)
      · have eg : getA os w = blk 2 w := by unfold getA; rw [hk, if_neg (by decide), if_neg c23, if_pos (by omega)]
        rw [eg]
        refine V_run D [] 138 rfl ⟨⟨by decide, by decide⟩, trivial⟩ ?_
        refine V_ge D 145 rfl rfl (zCmp_in _ _) (fun q => absurd q (by decide)) (fun _ => ?_)
        refine V_run D [] 156 rfl ⟨⟨by decide, by decide⟩, trivial⟩ ?_
        refine V_ge D 163 rfl rfl (zCmp_in _ _) (fun q => absurd q (by decide)) (fun _ => ?_)
        refine V_run D [171] 171 rfl trivial ?_
        exact V_loc [some (.inr (.inr y)), some (.inl (r : Int)), some (.inr (.inl (-1))), none, some (.inl (w.2.1.length : Int)), some (.inl (2 % 8)), some (.inl (2 / 16))] rfl (lg_blk (x := 2) D h hr hR0 hx0 hA (by omega) rfl)
      · have eg : getA os w = (69, [(4, hib w.2.2 2)], w.2.1) := by unfold getA; rw [hk, if_neg (by decide), if_neg c23, if_neg (by omega)]
        rw [eg]
        refine V_run D [] 121 rfl trivial ?_
        refine V_mdV (av := [.inl (r : Int)]) (st := []) D mwX10_tells rfl lkX10_X10_tells (r_tells h hr g5 k1 hA.1) h.1 rfl ⟨Nat.le_refl _, Nat.le_refl _⟩ (fun rr I1 P1 => ?_)
        obtain ⟨rfl, f1, o1⟩ := P1
        have hv1 : Rw (I1 (y + 17)) (400 * r) w.2.1 := g4.kept (fun j _ => f1 _ _ (by unfold Ob; omega))
        refine V_run D [] 129 rfl trivial ?_
        refine V_mdV (av := [.inl (r : Int), .inl ((0 : Nat) : Int), .inl (w.2.1.length : Int)]) (st := []) D mwX10_sends rfl lkX10_X10_sends (r_sends h hr hv1 k3 (by omega) (by omega)) h.1 rfl ⟨Nat.le_refl _, Nat.le_refl _⟩ (fun rr I6 P6 => ?_)
        obtain ⟨rfl, f6, p6, q6⟩ := P6
        rw [List.drop_zero, Nat.sub_zero, List.take_length] at p6 q6
        refine V_run D [] 134 rfl trivial ?_
        refine V_iret D rfl rfl ⟨rfl, rfl, rfl, rfl, fun a k q => ?_, ?_, p6, q6⟩
        · rw [f6 a k (fun s => q (Or.inr s)), f1 a k (fun s => q (Or.inl s))]
        · refine o1.kept (fun j hj => ?_) (by simp) (fun a k q => f6 a k (by unfold Ob at q; omega))
          have : j = 0 := by simpa using hj
          subst this
          exact ⟨by show (0 : Int) ≤ 4 ∧ (4 : Int) ≤ 65535; omega, by show (hib w.2.2 2).length ≤ 400; rw [hib_len]; omega, hib_rng _ _⟩
  | d + 1, i, hi, hk => by
    have hE := hO.2 i (by omega)
    obtain ⟨o1, o2, o3⟩ := id hE
    obtain ⟨v1, v2, v3⟩ := hL i (by omega)
    have hx0 := hx
    have hR0 := hR
    obtain ⟨k1, k2, k3, k4, k5⟩ := hx
    obtain ⟨g1, g2, g3, g4, g5⟩ := hR
    have ea : kno (os.take (i + 1)) w.2.2 = (kno (os.take i) w.2.2 || ((od os i).1 == 4 && isT (od os i).2 w.2.2)) := any_snocT _ (by omega)
    have ebf := bfold_snoc (os := os) (b := -1) (by omega : i < os.length)
    rw [hk, Bool.false_or] at ea
    refine V_run D [] 19 rfl ⟨h.a6 (by omega), h.1, trivial⟩ ?_
    rw [h.n6, show ((1 : Int)).toNat = 1 from rfl, hO.1]
    refine V_ige D 98 rfl rfl (by omega) (by omega) (fun q => absurd q (by omega)) (fun _ => ?_)
    have next : ((od os i).1 == 4 && isT (od os i).2 w.2.2) = false → V Γ E (xQ Γ E (gtP z T N I y (getA os w)) 0 0) z T I N 0 0 69 (xlv [some (.inr (.inr y)), some (.inl (r : Int)), some (.inr (.inl (bfold (-1) (os.take i)))), none, some (.inl ((21 * 1 + i : Nat) : Int))]) [] := fun hf => by
      rw [hf] at ea
      have ih := lg_get D h hO hL hn hr hR0 hx0 hA hb d (i + 1) (by omega) ea
      refine V_run D [] 78 rfl ⟨h.a7 (by omega), h.1, trivial⟩ ?_
      rw [h.n7, Int.toNat_natCast, o1]
      refine V_ine D 90 rfl rfl (by omega) (by omega) (fun c => ?_) (fun c => ?_)
      · rw [if_neg c] at ebf
        rw [ebf] at ih
        refine V_run D [8] 8 rfl trivial ?_
        exact V_loc [some (.inr (.inr y)), some (.inl (r : Int)), some (.inr (.inl (bfold (-1) (os.take i)))), none, some (.inl ((21 * 1 + (i + 1) : Nat) : Int))] rfl ih
      · rw [if_pos c] at ebf
        rw [ebf] at ih
        refine V_run D [] 84 rfl trivial ?_
        refine V_askV (av := [.inl ((21 * 1 + i : Nat) : Int)]) (st := []) D mwX10_whole rfl lkX10_X10_whole (r_whole h (by omega) hE v2 v3) h.1 rfl ⟨Nat.le_refl _, Nat.le_refl _⟩ ?_
        refine V_run D [8] 8 rfl trivial ?_
        exact V_loc [some (.inr (.inr y)), some (.inl (r : Int)), some (.inr (.inl (wn (od os i).2))), none, some (.inl ((21 * 1 + (i + 1) : Nat) : Int))] rfl ih
    refine V_run D [] 30 rfl ⟨h.a7 (by omega), h.1, trivial⟩ ?_
    rw [h.n7, Int.toNat_natCast, o1]
    refine V_ine D 69 rfl rfl (by omega) (by omega) (fun c => next (by rw [beq_false_of_ne c]; rfl)) (fun c => ?_)
    refine V_run D [] 55 rfl ⟨h.a18 (by omega), h.1, h.a18 (by omega), h.1, trivial⟩ ?_
    rw [h.n18, Int.toNat_natCast, g5, show zShr w.2.2 8 = w.2.2 / 256 from zShr_nat (k := 8) (by omega) (by decide), zAnd255]
    refine V_askV (av := [.inl ((21 * 1 + i : Nat) : Int), .inl (w.2.2 / 256), .inl (w.2.2 % 256)]) (st := []) D mwX10_isValue rfl lkX10_X10_isValue (r_isValue h (by omega) hE v2 v3 k1) h.1 rfl ⟨Nat.le_refl _, Nat.le_refl _⟩ ?_
    refine V_eq D 69 rfl rfl (b01_in _) (fun c2 => ?_) (fun c2 => ?_)
    · rw [b01_0] at c2
      exact next (by rw [c2, Bool.and_false])
    · have hT : isT (od os i).2 w.2.2 = true := by
        cases hh : isT (od os i).2 w.2.2 with
        | true => rfl
        | false => rw [hh] at c2; exact absurd rfl c2
      have hkn : kno os w.2.2 = true := by
        unfold kno
        rw [List.any_eq_true]
        exact ⟨od os i, by rw [od_get (by omega)]; exact List.getElem_mem _, by rw [hT, c]; rfl⟩
      have eg : getA os w = (67, [(4, hib w.2.2 2)], []) := by unfold getA; rw [if_pos hkn]
      rw [eg]
      refine V_run D [] 63 rfl trivial ?_
      refine V_mdV (av := [.inl (r : Int)]) (st := []) D mwX10_tells rfl lkX10_X10_tells (r_tells h hr g5 k1 hA.1) h.1 rfl ⟨Nat.le_refl _, Nat.le_refl _⟩ (fun rr I1 P1 => ?_)
      obtain ⟨rfl, f1, o1'⟩ := P1
      refine V_run D [] 68 rfl trivial ?_
      refine V_iret D rfl rfl ⟨rfl, rfl, rfl, rfl, f1.wide (fun a k q => Or.inl q), o1', ?_, Rw.nil⟩
      rw [f1 _ _ (by unfold Ob; omega)]; exact hA.2.1
theorem r_get (h : MdS T N y) (hO : OO I y 1 os) (hL : OL os) (hn : os.length ≤ 20) (hr : r < 16) (hR : RB I y r w) (hx : ROk w) (hA : AA I y ([], [])) (hb : hBad os = false) : Spec mX10_get 2 [.inr (.inr y), .inl (r : Int)] z T I N 0 0 (gtP z T N I y (getA os w)) := by
  refine Spec_of okX10_get (by decide) (by decide) (Nat.le_of_ble_eq_true rfl) fun Γ E D => ?_
  refine V_run D [8] 8 rfl trivial ?_
  exact V_loc [some (.inr (.inr y)), some (.inl (r : Int)), some (.inr (.inl (bfold (-1) (os.take 0)))), none, some (.inl ((21 * 1 + 0 : Nat) : Int))] rfl (lg_get D h hO hL hn hr hR hx hA hb _ 0 (Nat.zero_add _) rfl)
end XRef16
