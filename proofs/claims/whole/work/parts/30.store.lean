/-! CoapDesk$Resource, CoapDesk$Store -/
/-- path, contents, tag -/
abbrev Res : Type := List (List Int) × List Int × Int
def pe (p : List (List Int)) : List Int := p.flatMap (fun v => hib v.length 2 ++ v)
def rsd (rs : List Res) (k : Nat) : Res := rs.getD k ([], [], 0)
def RsAt (T : xY) (I : xI) (N : xN) (q : Nat) (x : Res) : Prop := T q = some (.inr 5) ∧ N q 0 = q + 1 ∧ N q 1 = q + 3 ∧ I q 2 = (x.1.length : Int) ∧ I q 3 = x.2.2 ∧ BAt T I N (q + 1) 2040 (pe x.1) ∧ BAt T I N (q + 3) 400 x.2.1
/-- a resource's cells, whatever they hold -/
def RsAny (T : xY) (I : xI) (N : xN) (q : Nat) : Prop := T q = some (.inr 5) ∧ N q 0 = q + 1 ∧ N q 1 = q + 3 ∧ (∃ v, BAt T I N (q + 1) 2040 v) ∧ ∃ w, BAt T I N (q + 3) 400 w
def StAt (T : xY) (I : xI) (N : xN) (q : Nat) (rs : List Res) (tags : Int) : Prop :=
  (T q = some (.inr 8) ∧ N q 0 = q + 1 ∧ T (q + 1) = some (.inl (4, 16)) ∧ I q 1 = (rs.length : Int) ∧ rs.length ≤ 16 ∧ I q 2 = tags) ∧
  ∃ f : Nat → Nat, (∀ j, j < 16 → f j < 16 ∧ N (q + 1) j = q + 2 + 5 * f j) ∧ (∀ i j, i < 16 → j < 16 → f i = f j → i = j) ∧ (∀ k, k < 16 → RsAny T I N (q + 2 + 5 * k)) ∧ ∀ j, j < rs.length → RsAt T I N (q + 2 + 5 * f j) (rsd rs j)
theorem RsAt.any {T : xY} {I : xI} {N : xN} {q : Nat} {x : Res} (h : RsAt T I N q x) : RsAny T I N q := ⟨h.1, h.2.1, h.2.2.1, ⟨_, h.2.2.2.2.2.1⟩, ⟨_, h.2.2.2.2.2.2⟩⟩
theorem RsAt.kept {T : xY} {I I' : xI} {N N' : xN} {o : Nat} {x : Res} (h : RsAt T I N o x) (hk : ∀ a, o ≤ a → a < o + 5 → I' a = I a ∧ N' a = N a) : RsAt T I' N' o x := by
  obtain ⟨h1, h2, h3, h4, h5, h6, h7⟩ := h
  have k0 := hk o (by omega) (by omega)
  exact ⟨h1, by rw [k0.2]; exact h2, by rw [k0.2]; exact h3, by rw [k0.1]; exact h4, by rw [k0.1]; exact h5, h6.kept (hk _ (by omega) (by omega)).1 (hk _ (by omega) (by omega)).1 (hk _ (by omega) (by omega)).2, h7.kept (hk _ (by omega) (by omega)).1 (hk _ (by omega) (by omega)).1 (hk _ (by omega) (by omega)).2⟩
theorem RsAny.kept {T : xY} {I I' : xI} {N N' : xN} {o : Nat} (h : RsAny T I N o) (hk : ∀ a, o ≤ a → a < o + 5 → I' a = I a ∧ N' a = N a) : RsAny T I' N' o := by
  obtain ⟨h1, h2, h3, ⟨v, h6⟩, w, h7⟩ := h
  have k0 := hk o (by omega) (by omega)
  exact ⟨h1, by rw [k0.2]; exact h2, by rw [k0.2]; exact h3, ⟨v, h6.kept (hk _ (by omega) (by omega)).1 (hk _ (by omega) (by omega)).1 (hk _ (by omega) (by omega)).2⟩, w, h7.kept (hk _ (by omega) (by omega)).1 (hk _ (by omega) (by omega)).1 (hk _ (by omega) (by omega)).2⟩
theorem StAt.kept {T : xY} {I I' : xI} {N N' : xN} {q : Nat} {rs : List Res} {tags : Int} (h : StAt T I N q rs tags) (hk : ∀ a, q ≤ a → a < q + 82 → I' a = I a ∧ N' a = N a) : StAt T I' N' q rs tags := by
  obtain ⟨⟨a1, a2, a3, a4, a5, a6⟩, f, f1, f2, f3, f4⟩ := h
  have k0 := hk q (by omega) (by omega)
  refine ⟨⟨a1, by rw [k0.2]; exact a2, a3, by rw [k0.1]; exact a4, a5, by rw [k0.1]; exact a6⟩, f, fun j hj => by rw [(hk (q + 1) (by omega) (by omega)).2]; exact f1 j hj, f2, fun k h => (f3 k h).kept (fun a h1 h2 => hk a (by omega) (by omega)), fun j hj => ?_⟩
  have := (f1 j (by omega)).1
  exact (f4 j hj).kept (fun a h1 h2 => hk a (by omega) (by omega))
theorem rsd_get {rs : List Res} {i : Nat} (h : i < rs.length) : rsd rs i = rs[i] := by unfold rsd; rw [List.getD_eq_getElem?_getD, List.getElem?_eq_getElem h]; rfl
/-- the place of the resource of a path; how many there are, if none is -/
def rfi (ys : List Int) (rs : List Res) : Nat := rs.findIdx (fun x => pe x.1 == ys)
theorem rfi_le (ys : List Int) (rs : List Res) : rfi ys rs ≤ rs.length := List.findIdx_le_length
theorem rfi_hit {ys : List Int} {rs : List Res} {i : Nat} (h : i ≤ rfi ys rs) (hi : i < rs.length) (he : pe (rsd rs i).1 = ys) : rfi ys rs = i := by
  have h1 : ¬ i < rfi ys rs := fun hlt => by
    have := List.not_of_lt_findIdx (p := fun x : Res => pe x.1 == ys) (xs := rs) (i := i) hlt
    rw [rsd_get hi] at he
    simp [he] at this
  omega
theorem rfi_next {ys : List Int} {rs : List Res} {i : Nat} (h : i ≤ rfi ys rs) (hi : i < rs.length) (he : ¬ pe (rsd rs i).1 = ys) : i + 1 ≤ rfi ys rs := by
  rcases Nat.lt_or_ge i (rfi ys rs) with h1 | h1
  · exact h1
  · have e : rfi ys rs = i := by omega
    have hlt : rfi ys rs < rs.length := by omega
    have h2 := List.findIdx_getElem (p := fun x : Res => pe x.1 == ys) (xs := rs) (w := hlt)
    have h3 : rs[rfi ys rs] = rsd rs i := by rw [rsd_get hi]; congr 1
    have h4 : (pe rs[rfi ys rs].1 == ys) = true := h2
    rw [h3] at h4
    exact absurd (by simpa using h4) he
section XSt
variable {Γ : xG} {E : xE} {z : Nat} {T : xY} {I : xI} {N : xN} {q b : Nat} {rs : List Res} {tags : Int} {ys : List Int}
def rref (N : xN) (q : Nat) (rs : List Res) (k : Int) : Nat := if 0 ≤ k ∧ k < rs.length then N (q + 1) k.toNat else 0
theorem s_stat {k : Int} (h : StAt T I N q rs tags) (hk : xIn k) : Spec mX8_at 0 [.inr (.inr q), .inl k] z T I N 0 0 (xSame z T I N (some (.inr (.inr (rref N q rs k))))) := by
  obtain ⟨⟨a1, a2, a3, a4, a5, a6⟩, f, f1, f2, f3, f4⟩ := h
  refine Spec_of okX8_at (by decide) (by decide) (Nat.le_of_ble_eq_true rfl) fun Γ E D => ?_
  refine V_run D [] 1 rfl trivial ?_
  refine V_lt D 21 rfl rfl hk (fun q1 => ?_) (fun q1 => ?_)
  · refine V_run D [] 22 rfl trivial ?_
    exact V_aret D rfl rfl ⟨by unfold rref; rw [if_neg (by omega)], rfl, rfl, rfl, rfl⟩
  · refine V_run D [] 9 rfl ⟨a1, trivial⟩ ?_
    rw [a4]
    refine V_ige D 21 rfl rfl hk (by omega) (fun q2 => ?_) (fun q2 => ?_)
    · refine V_run D [] 22 rfl trivial ?_
      exact V_aret D rfl rfl ⟨by unfold rref; rw [if_neg (by omega)], rfl, rfl, rfl, rfl⟩
    · refine V_run D [] 22 rfl ⟨⟨4, by omega, 16, by rw [a2]; exact a3, by omega, by omega⟩, a1, trivial⟩ ?_
      rw [a2]
      exact V_aret D rfl rfl ⟨by unfold rref; rw [if_pos (by omega)], rfl, rfl, rfl, rfl⟩
theorem l_sfind (D : xD Γ E mX8_find 2 0 0) (h : StAt T I N q rs tags) (hB : BAt T I N b 2040 ys) : ∀ (d i : Nat), i + d = rs.length → i ≤ rfi ys rs →
    V Γ E (xQ Γ E (xSame z T I N (some (.inr (.inr (rref N q rs (rfi ys rs)))))) 0 0) z T I N 0 0 2 (xlv [some (.inr (.inr q)), some (.inr (.inr b)), some (.inl (i : Int))]) []
  | 0, i, hi, hf => by
    obtain ⟨⟨a1, a2, a3, a4, a5, a6⟩, f, f1, f2, f3, f4⟩ := h
    refine V_run D [] 7 rfl ⟨a1, trivial⟩ ?_
    rw [a4]
    refine V_ige D 39 rfl rfl (by omega) (by omega) (fun q1 => ?_) (fun q1 => absurd q1 (by omega))
    refine V_run D [] 40 rfl trivial ?_
    have := rfi_le ys rs
    exact V_aret D rfl rfl ⟨by unfold rref; rw [if_neg (by omega)], rfl, rfl, rfl, rfl⟩
  | d + 1, i, hi, hf => by
    obtain ⟨⟨a1, a2, a3, a4, a5, a6⟩, f, f1, f2, f3, f4⟩ := id h
    refine V_run D [] 7 rfl ⟨a1, trivial⟩ ?_
    rw [a4]
    refine V_ige D 39 rfl rfl (by omega) (by omega) (fun q1 => absurd q1 (by omega)) (fun q1 => ?_)
    have e1 := (f1 i (by omega)).2
    obtain ⟨r1, r2, r3, r4, r5, r6, r7⟩ := f4 i (by omega)
    refine V_run D [] 20 rfl ⟨by rw [a2, Int.toNat_natCast, e1]; exact r1, ⟨4, by omega, 16, by rw [a2]; exact a3, by omega, by omega⟩, a1, trivial⟩ ?_
    rw [a2, Int.toNat_natCast, e1, r2]
    refine V_askV (av := [.inr (.inr b)]) (st := []) D mwX0_isSameAs rfl lkX8_X0_isSameAs (s_same r6 hB) r6.1 rfl ⟨Nat.le_refl _, Nat.le_refl _⟩ ?_
    refine V_eq D 33 rfl rfl (by split <;> omega) (fun q2 => ?_) (fun q2 => ?_)
    · refine V_run D [2] 2 rfl trivial ?_
      refine V_loc [some (.inr (.inr q)), some (.inr (.inr b)), some (.inl ((i + 1 : Nat) : Int))] rfl ?_
      exact l_sfind D h hB d (i + 1) (by omega) (rfi_next hf (by omega) (fun e => by rw [if_pos e] at q2; omega))
    · refine V_run D [] 32 rfl ⟨⟨4, by omega, 16, by rw [a2]; exact a3, by omega, by omega⟩, a1, trivial⟩ ?_
      rw [a2, Int.toNat_natCast]
      have hpe : pe (rsd rs i).1 = ys := by
        by_cases e : pe (rsd rs i).1 = ys
        · exact e
        · rw [if_neg e] at q2; exact absurd rfl q2
      have e2 := rfi_hit hf (by omega) hpe
      exact V_aret D rfl rfl ⟨by rw [e2]; unfold rref; rw [if_pos (by omega), Int.toNat_natCast], rfl, rfl, rfl, rfl⟩
theorem s_sfind (h : StAt T I N q rs tags) (hB : BAt T I N b 2040 ys) : Spec mX8_find 2 [.inr (.inr q), .inr (.inr b)] z T I N 0 0 (xSame z T I N (some (.inr (.inr (rref N q rs (rfi ys rs)))))) := by
  refine Spec_of okX8_find (by decide) (by decide) (Nat.le_of_ble_eq_true rfl) fun Γ E D => ?_
  refine V_run D [2] 2 rfl trivial ?_
  refine V_loc [some (.inr (.inr q)), some (.inr (.inr b)), some (.inl ((0 : Nat) : Int))] rfl ?_
  exact l_sfind D h hB _ 0 (Nat.zero_add _) (Nat.zero_le _)
end XSt
