theorem pe_cons (v : List Int) (p : List (List Int)) : pe (v :: p) = hib v.length 2 ++ (v ++ pe p) := by unfold pe; simp
theorem pe_inj : ∀ {p p' : List (List Int)}, (∀ v ∈ p, v.length ≤ 400) → (∀ v ∈ p', v.length ≤ 400) → pe p = pe p' → p = p'
  | [], [], _, _, _ => rfl
  | [], v :: p', _, _, h => by rw [pe_cons, hib2] at h; simp [pe] at h
  | v :: p, [], _, _, h => by rw [pe_cons, hib2] at h; simp [pe] at h
  | v :: p, v' :: p', h1, h2, h => by
    have l1 := h1 v (by simp)
    have l2 := h2 v' (by simp)
    rw [pe_cons, pe_cons, hib2, hib2] at h
    simp only [List.cons_append, List.nil_append, List.cons.injEq] at h
    obtain ⟨a, b, c⟩ := h
    have e : v.length = v'.length := by omega
    obtain ⟨e1, e2⟩ := List.append_inj c e
    rw [e1, pe_inj (fun w hw => h1 w (by simp [hw])) (fun w hw => h2 w (by simp [hw])) e2]
theorem ptk {os : List Opt} {i : Nat} (h : i < os.length) : pth (os.take (i + 1)) = if (od os i).1 = 11 then pth (os.take i) ++ [(od os i).2] else pth (os.take i) := by rw [otake_snoc h, pth_snoc]
theorem ptk_pre (os : List Opt) (i : Nat) : pth (os.take i) <+: pth os := by
  have h : pth os = pth (os.take i) ++ pth (os.drop i) := by rw [← pth_app, List.take_append_drop]
  rw [h]; exact List.prefix_append _ _
section XRef14
variable {Γ : xG} {E : xE} {M : xM} {z : Nat} {T : xY} {I J : xI} {N : xN} {y m lev mc ms ce sl pc idx i p r n : Nat} {os : List Opt} {g : Msg} {x : Dk} {xs w v : List Int} {Q : State → Prop} {lv : xL} {q : Opt} {rs : List Res}
theorem lr_cmp (D : xD Γ E mX10_found 0 0 0) (h : MdS T N y) (hi : i < 63) (hp : p < 320) (h8 : I (y + 8) i = (v.length : Int)) (h9 : Rw (I (y + 9)) (400 * i) v) (h15 : Rw (I (y + 15)) (400 * p) w) (hl : w.length = v.length) (hv : v.length ≤ 400) (ok1 : BsOk w) (ok2 : BsOk v)
    (K : ∀ b c6 : Int, (b = 1 ∧ w = v ∨ b = 0 ∧ w ≠ v) → V Γ E Q z T I N 0 0 154 (xlv [some (.inr (.inr y)), some (.inl (r : Int)), some (.inl (n : Int)), some (.inl b), some (.inl (i : Int)), some (.inl (p : Int)), some (.inl c6)]) []) : ∀ d j, j + d = v.length → w.take j = v.take j →
    V Γ E Q z T I N 0 0 95 (xlv [some (.inr (.inr y)), some (.inl (r : Int)), some (.inl (n : Int)), some (.inl 1), some (.inl (i : Int)), some (.inl (p : Int)), some (.inl (j : Int))]) []
  | 0, j, hj, he => by
    obtain rfl : j = v.length := by omega
    refine V_run D [] 104 rfl ⟨h.a8 (by omega), h.1, trivial⟩ ?_
    rw [h.n8, Int.toNat_natCast, h8]
    refine V_ige D 154 rfl rfl (by omega) (by omega) (fun _ => K 1 _ (Or.inl ⟨rfl, ?_⟩)) (fun q => absurd q (by omega))
    rw [List.take_of_length_le (by omega), List.take_length] at he
    exact he
  | d + 1, j, hj, he => by
    have b1 := ok1 _ (getD_mem (xs := w) (j := j) (by omega))
    have b2 := ok2 _ (getD_mem (xs := v) (j := j) (by omega))
    refine V_run D [] 104 rfl ⟨h.a8 (by omega), h.1, trivial⟩ ?_
    rw [h.n8, Int.toNat_natCast, h8]
    refine V_ige D 154 rfl rfl (by omega) (by omega) (fun q => absurd q (by omega)) (fun _ => ?_)
    refine V_run D [] 108 rfl trivial ?_
    refine V_eq D 154 rfl rfl (by omega) (fun q => absurd q (by decide)) (fun _ => ?_)
    refine V_run D [] 139 rfl ⟨h.a9 (by omega), h.1, h.a15 (by omega), h.1, trivial⟩ ?_
    rw [h.n9, h.n15, show (400 * (p : Int) + (j : Int)).toNat = 400 * p + j by omega, show (400 * (i : Int) + (j : Int)).toNat = 400 * i + j by omega, h9 j (by omega), h15 j (by omega)]
    refine V_ine D 146 rfl rfl (by omega) (by omega) (fun c => ?_) (fun c => ?_)
    · have ne : w ≠ v := fun e => c (by rw [e])
      refine V_run D [] 104 rfl ⟨h.a8 (by omega), h.1, trivial⟩ ?_
      rw [h.n8, Int.toNat_natCast, h8]
      refine V_ige D 154 rfl rfl (by omega) (by omega) (fun _ => ?_) (fun _ => ?_)
      · exact V_loc [some (.inr (.inr y)), some (.inl (r : Int)), some (.inl (n : Int)), some (.inl 0), some (.inl (i : Int)), some (.inl (p : Int)), some (.inl ((j : Int) + 1))] rfl (K 0 _ (Or.inr ⟨rfl, ne⟩))
      · refine V_run D [] 108 rfl trivial ?_
        refine V_eq D 154 rfl rfl (by omega) (fun _ => ?_) (fun q => absurd rfl q)
        exact V_loc [some (.inr (.inr y)), some (.inl (r : Int)), some (.inl (n : Int)), some (.inl 0), some (.inl (i : Int)), some (.inl (p : Int)), some (.inl ((j : Int) + 1))] rfl (K 0 _ (Or.inr ⟨rfl, ne⟩))
    · refine V_run D [95] 95 rfl trivial ?_
      refine V_loc [some (.inr (.inr y)), some (.inl (r : Int)), some (.inl (n : Int)), some (.inl 1), some (.inl (i : Int)), some (.inl (p : Int)), some (.inl ((j + 1 : Nat) : Int))] rfl ?_
      exact lr_cmp D h hi hp h8 h9 h15 hl hv ok1 ok2 K d (j + 1) (by omega) (by rw [take_snoc (by omega), take_snoc (by omega), he, c])
/-- one resource: is its path the one asked for -/
theorem lr_one (D : xD Γ E mX10_found 0 0 0) (h : MdS T N y) (hO : OO I y 1 os) (hL : OL os) (hn : os.length ≤ 20) (hr : r < 16) {x : Res} (hR : RB I y r x) (hx : ROk x)
    (K1 : pth os = x.1 → ∀ lv, lv 1 = some (.inl (r : Int)) → V Γ E Q z T I N 0 0 177 lv []) (K0 : pth os ≠ x.1 → ∀ lv, lv 0 = some (.inr (.inr y)) → lv 1 = some (.inl (r : Int)) → V Γ E Q z T I N 0 0 179 lv []) : ∀ d i, i + d = os.length → pth (os.take i) <+: x.1 → ∀ c5 c6 : Option xV,
    V Γ E Q z T I N 0 0 18 (xlv [some (.inr (.inr y)), some (.inl (r : Int)), some (.inl ((pth (os.take i)).length : Int)), some (.inl 1), some (.inl ((21 * 1 + i : Nat) : Int)), c5, c6]) []
  | 0, i, hi, hp, c5, c6 => by
    obtain rfl : i = os.length := by omega
    have hl := pth_len_le os
    obtain ⟨k1, k2, k3, k4, k5⟩ := hx
    refine V_run D [] 29 rfl ⟨h.a6 (by omega), h.1, trivial⟩ ?_
    rw [h.n6, show ((1 : Int)).toNat = 1 from rfl, hO.1]
    refine V_ige D 163 rfl rfl (by omega) (by omega) (fun _ => ?_) (fun q => absurd q (by omega))
    refine V_run D [] 164 rfl trivial ?_
    refine V_eq D 179 rfl rfl (by omega) (fun q => absurd q (by decide)) (fun _ => ?_)
    refine V_run D [] 174 rfl ⟨h.a13 (by omega), h.1, trivial⟩ ?_
    rw [h.n13, Int.toNat_natCast, hR.1]
    rw [List.take_length] at hp ⊢
    refine V_ine D 179 rfl rfl (by omega) (by omega) (fun c => K0 (fun e => c (by rw [e])) _ rfl rfl) (fun c => K1 (hp.eq_of_length (by omega)) _ rfl)
  | d + 1, i, hi, hp, c5, c6 => by
    obtain ⟨o1, o2, o3⟩ := hO.2 i (by omega)
    obtain ⟨v1, v2, v3⟩ := hL i (by omega)
    have hl := pth_len_le (os.take i)
    rw [List.length_take] at hl
    have hpl := hp.length_le
    have hx' := hx
    obtain ⟨k1, k2, k3, k4, k5⟩ := hx
    have ih := lr_one D h hO hL hn hr hR hx' K1 K0 d (i + 1) (by omega)
    refine V_run D [] 29 rfl ⟨h.a6 (by omega), h.1, trivial⟩ ?_
    rw [h.n6, show ((1 : Int)).toNat = 1 from rfl, hO.1]
    refine V_ige D 163 rfl rfl (by omega) (by omega) (fun q => absurd q (by omega)) (fun _ => ?_)
    refine V_run D [] 33 rfl trivial ?_
    refine V_eq D 163 rfl rfl (by omega) (fun q => absurd q (by decide)) (fun _ => ?_)
    refine V_run D [] 45 rfl ⟨h.a7 (by omega), h.1, trivial⟩ ?_
    rw [h.n7, Int.toNat_natCast, o1]
    rw [ptk (by omega)] at ih
    refine V_ieq D 51 rfl rfl (by omega) (by omega) (fun c11 => ?_) (fun c11 => ?_)
    · rw [if_pos c11] at ih
      -- the flag is down: another path
      have no : ¬ (pth (os.take i) ++ [(od os i).2] <+: x.1) → ∀ c5' c6' : Int, V Γ E Q z T I N 0 0 154 (xlv [some (.inr (.inr y)), some (.inl (r : Int)), some (.inl ((pth (os.take i)).length : Int)), some (.inl 0), some (.inl ((21 * 1 + i : Nat) : Int)), some (.inl c5'), some (.inl c6')]) [] := fun hno c5' c6' => by
        have ne : pth os ≠ x.1 := fun e => hno (by
          have := ptk_pre os (i + 1)
          rw [ptk (by omega), if_pos c11, e] at this
          exact this)
        have down : ∀ lv, lv 0 = some (.inr (.inr y)) → lv 1 = some (.inl (r : Int)) → lv 3 = some (.inl 0) → V Γ E Q z T I N 0 0 163 lv [] := fun lv l0 l1 l3 => by
          refine V_lv (lv' := xlv [some (.inr (.inr y)), some (.inl (r : Int)), none, some (.inl 0)]) (fun j v hj => ?_) ?_
          · match j, hj with
            | 0, hj => exact l0.trans hj
            | 1, hj => exact l1.trans hj
            | 2, hj => cases hj
            | 3, hj => exact l3.trans hj
          refine V_run D [] 164 rfl trivial ?_
          exact V_eq D 179 rfl rfl (by omega) (fun _ => K0 ne _ rfl rfl) (fun q => absurd rfl q)
        refine V_run D [] 29 rfl ⟨h.a6 (by omega), h.1, trivial⟩ ?_
        rw [h.n6, show ((1 : Int)).toNat = 1 from rfl, hO.1]
        refine V_ige D 163 rfl rfl (by omega) (by omega) (fun _ => down _ rfl rfl rfl) (fun _ => ?_)
        refine V_run D [] 33 rfl trivial ?_
        exact V_eq D 163 rfl rfl (by omega) (fun _ => down _ rfl rfl rfl) (fun q => absurd rfl q)
      have s90 : ¬ (pth (os.take i) ++ [(od os i).2] <+: x.1) → V Γ E Q z T I N 0 0 90 (xlv [some (.inr (.inr y)), some (.inl (r : Int)), some (.inl ((pth (os.take i)).length : Int)), some (.inl 1), some (.inl ((21 * 1 + i : Nat) : Int)), some (.inl (20 * (r : Int) + ((pth (os.take i)).length : Int)))]) [] := fun hno => by
        refine V_run D [] 104 rfl ⟨h.a8 (by omega), h.1, trivial⟩ ?_
        rw [h.n8, Int.toNat_natCast, o2]
        refine V_ige D 154 rfl rfl (by omega) (by omega) (fun _ => ?_) (fun _ => ?_)
        · exact V_loc [some (.inr (.inr y)), some (.inl (r : Int)), some (.inl ((pth (os.take i)).length : Int)), some (.inl 0), some (.inl ((21 * 1 + i : Nat) : Int)), some (.inl (20 * (r : Int) + ((pth (os.take i)).length : Int))), some (.inl 0)] rfl (no hno _ _)
        · refine V_run D [] 108 rfl trivial ?_
          refine V_eq D 154 rfl rfl (by omega) (fun _ => ?_) (fun q => absurd rfl q)
          exact V_loc [some (.inr (.inr y)), some (.inl (r : Int)), some (.inl ((pth (os.take i)).length : Int)), some (.inl 0), some (.inl ((21 * 1 + i : Nat) : Int)), some (.inl (20 * (r : Int) + ((pth (os.take i)).length : Int))), some (.inl 0)] rfl (no hno _ _)
      have pre_iff : ∀ (w : List Int), (pth (os.take i)).length < x.1.length → x.1.getD (pth (os.take i)).length [] = w → ((pth (os.take i) ++ [(od os i).2] <+: x.1) ↔ w = (od os i).2) := fun w hlt hw => by
        obtain ⟨t, ht⟩ := hp
        have e9 : t = w :: t.tail := by
          cases t with
          | nil => rw [List.append_nil] at ht; rw [ht] at hlt; omega
          | cons a t =>
            have : x.1.getD (pth (os.take i)).length [] = a := by rw [← ht]; simp
            rw [← hw, this]; rfl
        rw [← ht, List.prefix_append_right_inj, e9]
        constructor
        · intro hh; have := List.cons_prefix_cons.mp hh; exact this.1.symm
        · intro hh; rw [hh]; exact List.cons_prefix_cons.mpr ⟨rfl, List.nil_prefix⟩
      refine V_run D [] 66 rfl ⟨h.a13 (by omega), h.1, trivial⟩ ?_
      rw [h.n13, Int.toNat_natCast, hR.1]
      refine V_ige D 90 rfl rfl (by omega) (by omega) (fun c1 => ?_) (fun c1 => ?_)
      · refine V_loc [some (.inr (.inr y)), some (.inl (r : Int)), some (.inl ((pth (os.take i)).length : Int)), some (.inl 1), some (.inl ((21 * 1 + i : Nat) : Int)), some (.inl (20 * (r : Int) + ((pth (os.take i)).length : Int)))] rfl (s90 (fun hh => ?_))
        have := hh.length_le
        rw [List.length_append, List.length_singleton] at this
        omega
      · obtain ⟨g1, g2⟩ := hR.2.1 (pth (os.take i)).length (by omega)
        have hmem : x.1.getD (pth (os.take i)).length [] ∈ x.1 := by rw [List.getD_eq_getElem?_getD, List.getElem?_eq_getElem (by omega)]; exact List.getElem_mem _
        obtain ⟨w1, w2⟩ := k5 _ hmem
        have pi := pre_iff _ (by omega) rfl
        generalize x.1.getD (pth (os.take i)).length [] = w at *
        refine V_run D [] 83 rfl ⟨h.a8 (by omega), h.1, h.a14 (by omega), h.1, trivial⟩ ?_
        rw [h.n8, h.n14, Int.toNat_natCast, show (20 * (r : Int) + ((pth (os.take i)).length : Int)).toNat = 20 * r + (pth (os.take i)).length by omega, g1, o2]
        refine V_ine D 90 rfl rfl (by omega) (by omega) (fun c2 => ?_) (fun c2 => ?_)
        · exact V_loc [some (.inr (.inr y)), some (.inl (r : Int)), some (.inl ((pth (os.take i)).length : Int)), some (.inl 1), some (.inl ((21 * 1 + i : Nat) : Int)), some (.inl (20 * (r : Int) + ((pth (os.take i)).length : Int)))] rfl (s90 (fun hh => c2 (by rw [pi.mp hh])))
        · refine V_run D [95] 95 rfl trivial ?_
          rw [show (20 * (r : Int) + ((pth (os.take i)).length : Int)) = ((20 * r + (pth (os.take i)).length : Nat) : Int) by omega]
          refine V_loc [some (.inr (.inr y)), some (.inl (r : Int)), some (.inl ((pth (os.take i)).length : Int)), some (.inl 1), some (.inl ((21 * 1 + i : Nat) : Int)), some (.inl ((20 * r + (pth (os.take i)).length : Nat) : Int)), some (.inl ((0 : Nat) : Int))] rfl ?_
          refine lr_cmp D h (by omega) (by omega) o2 o3 g2 (by omega) v2 w1 v3 (fun b c6' hb => ?_) _ 0 (Nat.zero_add _) rfl
          rcases hb with ⟨rfl, hb⟩ | ⟨rfl, hb⟩
          · refine V_run D [18] 18 rfl trivial ?_
            refine V_loc [some (.inr (.inr y)), some (.inl (r : Int)), some (.inl ((pth (os.take i) ++ [(od os i).2]).length : Int)), some (.inl 1), some (.inl ((21 * 1 + (i + 1) : Nat) : Int)), some (.inl ((20 * r + (pth (os.take i)).length : Nat) : Int)), some (.inl c6')] ?_ (ih (pi.mpr hb) _ _)
            rw [show ((pth (os.take i) ++ [(od os i).2]).length : Int) = ((pth (os.take i)).length : Int) + 1 by simp]
            rfl
          · exact no (fun hh => hb (pi.mp hh)) _ _
    · rw [if_neg c11] at ih
      refine V_run D [18] 18 rfl trivial ?_
      refine V_lv (lv' := xlv [some (.inr (.inr y)), some (.inl (r : Int)), some (.inl ((pth (os.take i)).length : Int)), some (.inl 1), some (.inl ((21 * 1 + (i + 1) : Nat) : Int)), none, none]) (fun j v hj => ?_) (ih hp none none)
      match j, hj with
      | 0, hj => exact hj
      | 1, hj => exact hj
      | 2, hj => exact hj
      | 3, hj => exact hj
      | 4, hj => exact hj
      | 5, hj => cases hj
      | 6, hj => cases hj
theorem lr_found (D : xD Γ E mX10_found 0 0 0) (h : MdS T N y) (hO : OO I y 1 os) (hL : OL os) (hn : os.length ≤ 20) {tags : Int} (hR : RR I y rs tags) (hrs : ∀ x ∈ rs, ROk x) (hrl : rs.length ≤ 16) : ∀ d r, r + d = rs.length → r ≤ rfi (pe (pth os)) rs → ∀ lv : xL, lv 0 = some (.inr (.inr y)) → lv 1 = some (.inl (r : Int)) →
    V Γ E (xQ Γ E (xSame z T I N (some (.inl (if rfi (pe (pth os)) rs < rs.length then (rfi (pe (pth os)) rs : Int) else -1)))) 0 0) z T I N 0 0 2 lv []
  | 0, r, hr, hle, lv, l0, l1 => by
    obtain rfl : r = rs.length := by omega
    have := rfi_le (pe (pth os)) rs
    refine V_lv (lv' := xlv [some (.inr (.inr y)), some (.inl (rs.length : Int))]) (fun j v hj => by match j, hj with | 0, hj => exact l0.trans hj | 1, hj => exact l1.trans hj) ?_
    refine V_run D [] 7 rfl ⟨h.1, trivial⟩ ?_
    rw [hR.1]
    refine V_ige D 185 rfl rfl (by omega) (by omega) (fun _ => ?_) (fun q => absurd q (by omega))
    refine V_run D [] 186 rfl trivial ?_
    exact V_iret D rfl rfl ⟨by rw [if_neg (by omega)], rfl, rfl, rfl, rfl⟩
  | d + 1, r, hr, hle, lv, l0, l1 => by
    have hmem := rsd_mem (rs := rs) (k := r) (by omega)
    have hx := hrs _ hmem
    refine V_lv (lv' := xlv [some (.inr (.inr y)), some (.inl (r : Int))]) (fun j v hj => by match j, hj with | 0, hj => exact l0.trans hj | 1, hj => exact l1.trans hj) ?_
    refine V_run D [] 7 rfl ⟨h.1, trivial⟩ ?_
    rw [hR.1]
    refine V_ige D 185 rfl rfl (by omega) (by omega) (fun q => absurd q (by omega)) (fun _ => ?_)
    have inj : pe (rsd rs r).1 = pe (pth os) → (rsd rs r).1 = pth os := pe_inj (fun v hv => (hx.2.2.2.2 v hv).2) (fun v hv => by
      unfold pth at hv
      obtain ⟨q, hq, rfl⟩ := List.mem_map.mp hv
      have hq' := (List.mem_filter.mp hq).1
      obtain ⟨k, hk, e⟩ := List.getElem_of_mem hq'
      have := (hL k hk).2.1
      rw [od_get hk, e] at this
      exact this)
    refine V_run D [18] 18 rfl trivial ?_
    refine V_lv (lv' := xlv [some (.inr (.inr y)), some (.inl (r : Int)), some (.inl ((pth (os.take 0)).length : Int)), some (.inl 1), some (.inl ((21 * 1 + 0 : Nat) : Int)), none, none]) (fun j v hj => ?_) ?_
    · match j, hj with
      | 0, hj => exact hj
      | 1, hj => exact hj
      | 2, hj => exact hj
      | 3, hj => exact hj
      | 4, hj => exact hj
      | 5, hj => cases hj
      | 6, hj => cases hj
    refine lr_one D h hO hL hn (by omega) (hR.2.2 r (by omega)) hx (fun e lv k1 => ?_) (fun e lv k0 k1 => ?_) _ 0 (Nat.zero_add _) (by simp [pth]) none none
    · have := rfi_hit hle (by omega) (by rw [e])
      refine V_lv (lv' := xlv [none, some (.inl (r : Int))]) (fun j v hj => by match j, hj with | 0, hj => cases hj | 1, hj => exact k1.trans hj) ?_
      refine V_run D [] 178 rfl trivial ?_
      exact V_iret D rfl rfl ⟨by rw [this, if_pos (by omega)], rfl, rfl, rfl, rfl⟩
    · have := rfi_next hle (by omega) (fun hh => e (inj hh).symm)
      refine V_lv (lv' := xlv [some (.inr (.inr y)), some (.inl (r : Int))]) (fun j v hj => by match j, hj with | 0, hj => exact k0.trans hj | 1, hj => exact k1.trans hj) ?_
      refine V_run D [2] 2 rfl trivial ?_
      exact lr_found D h hO hL hn hR hrs hrl d (r + 1) (by omega) this _ rfl rfl
theorem r_found (h : MdS T N y) (hO : OO I y 1 os) (hL : OL os) (hn : os.length ≤ 20) {tags : Int} (hR : RR I y rs tags) (hrs : ∀ x ∈ rs, ROk x) (hrl : rs.length ≤ 16) : Spec mX10_found 0 [.inr (.inr y)] z T I N 0 0 (xSame z T I N (some (.inl (if rfi (pe (pth os)) rs < rs.length then (rfi (pe (pth os)) rs : Int) else -1)))) := by
  refine Spec_of okX10_found (by decide) (by decide) (Nat.le_of_ble_eq_true rfl) fun Γ E D => ?_
  refine V_run D [2] 2 rfl trivial ?_
  exact lr_found D h hO hL hn hR hrs hrl _ 0 (Nat.zero_add _) (Nat.zero_le _) _ rfl rfl
end XRef14
