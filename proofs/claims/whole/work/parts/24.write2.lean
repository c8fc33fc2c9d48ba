def lastn (b : Int) : List Opt → Int
  | [] => b
  | q :: r => lastn q.1 r
theorem lastn_snoc (b : Int) (os : List Opt) (q : Opt) : lastn b (os ++ [q]) = q.1 := by
  induction os generalizing b with
  | nil => rfl
  | cons a r ih => exact ih a.1
theorem wos_snoc (b : Int) (os : List Opt) (q : Opt) : wos b (os ++ [q]) = wos b os ++ wo (lastn b os) q := by
  induction os generalizing b with
  | nil => simp [wos, lastn]
  | cons a r ih => simp [wos, lastn, ih a.1]
theorem otake_snoc {os : List Opt} {i : Nat} (h : i < os.length) : os.take (i + 1) = os.take i ++ [od os i] := by
  rw [List.take_succ, od_get h, List.getElem?_eq_getElem h]; rfl
theorem OsOk.at : ∀ {os : List Opt} {b : Int} {i : Nat}, OsOk b os → i < os.length → b ≤ lastn b (os.take i) ∧ lastn b (os.take i) ≤ (od os i).1 ∧ (od os i).1 ≤ 65535
  | [], _, _, _, h => by simp at h
  | q :: r, b, 0, h, _ => by
    obtain ⟨h1, h2, h3, h4, h5⟩ := h
    exact ⟨by simp [lastn], by simpa [lastn, od] using h1, by simpa [od] using h2⟩
  | q :: r, b, i + 1, h, hi => by
    obtain ⟨h1, h2, h3, h4, h5⟩ := h
    have := h5.at (i := i) (by simpa using hi)
    have e : od (q :: r) (i + 1) = od r i := by unfold od; simp
    rw [e, List.take_succ_cons]
    show b ≤ lastn q.1 (r.take i) ∧ lastn q.1 (r.take i) ≤ _ ∧ _
    omega
theorem wo_len (b : Int) (q : Opt) : (wo b q).length = 1 + mb (q.1 - b) + mb q.2.length + q.2.length := by unfold wo; simp [wm_len]; omega
theorem wos_take_le (b : Int) (os : List Opt) (i : Nat) : (wos b (os.take i)).length ≤ (wos b os).length := by
  induction os generalizing b i with
  | nil => simp
  | cons a r ih =>
    cases i with
    | zero => simp [wos]
    | succ i => simp [wos]; exact ih a.1 i
theorem wr_len (g : Msg) : (wr g).length = 4 + g.2.2.2.1.length + (wos 0 g.2.2.2.2.1).length + (if g.2.2.2.2.2 = [] then 0 else 1 + g.2.2.2.2.2.length) := by
  unfold wr
  split <;> simp [hib_len] <;> omega
section XW2
variable {Γ : xG} {E : xE} {z : Nat} {T : xY} {I : xI} {N : xN} {m most lev b room o : Nat} {xs v : List Int} {g : Msg} {lat : Option Nat}
theorem l_size (D : xD Γ E mX1_writtenSize 1 0 0) (h : MAt T I N m most g lat) (hok : MOk g) : ∀ (d i : Nat), i + d = g.2.2.2.2.1.length →
    V Γ E (xQ Γ E (xSame z T I N (some (.inl ((wr g).length : Int)))) 0 0) z T I N 0 0 14 (xlv [some (.inr (.inr m)), some (.inl ((4 + g.2.2.2.1.length + (wos 0 (g.2.2.2.2.1.take i)).length : Nat) : Int)), some (.inl (lastn 0 (g.2.2.2.2.1.take i))), some (.inl (i : Int))]) []
  | 0, i, hi => by
    obtain ⟨⟨a1, a2, a3, a4, a5, a6, a7, a8⟩, ⟨b1, b2, b3⟩, c1, c2, ⟨f, f1, f2, f3, f4⟩, l1⟩ := h
    obtain rfl : i = g.2.2.2.2.1.length := by omega
    refine V_run D [] 19 rfl ⟨a1, trivial⟩ ?_
    rw [a7]
    refine V_ige D 80 rfl rfl (by omega) (by omega) (fun q1 => ?_) (fun q1 => absurd q1 (by omega))
    refine V_run D [] 87 rfl ⟨by rw [a3]; exact c2.1, a1, trivial⟩ ?_
    rw [a3, c2.2.2.2.1]
    have hp := c2.2.2.2.2.1
    refine V_ne D 94 rfl rfl (by omega) (fun q2 => ?_) (fun q2 => ?_)
    · refine V_run D [] 105 rfl ⟨by rw [a3]; exact c2.1, a1, trivial⟩ ?_
      rw [a3, c2.2.2.2.1, List.take_length]
      refine V_iret D rfl rfl ⟨?_, rfl, rfl, rfl, rfl⟩
      rw [wr_len, if_neg (by intro e; rw [e] at q2; exact q2 rfl)]
      congr 2
      omega
    · refine V_run D [] 105 rfl trivial ?_
      rw [List.take_length]
      refine V_iret D rfl rfl ⟨?_, rfl, rfl, rfl, rfl⟩
      rw [wr_len, if_pos (List.length_eq_zero_iff.mp (by omega))]
      rfl
  | d + 1, i, hi => by
    have h0 := h
    obtain ⟨⟨a1, a2, a3, a4, a5, a6, a7, a8⟩, ⟨b1, b2, b3⟩, c1, c2, ⟨f, f1, f2, f3, f4⟩, l1⟩ := h
    have e1 := (f1 i (by omega)).2
    obtain ⟨o1, o2, o3, o4⟩ := f4 i (by omega)
    have hat := hok.2.2.2.2.1.at (i := i) (by omega)
    have hv := o4.2.2.2.2.1
    refine V_run D [] 19 rfl ⟨a1, trivial⟩ ?_
    rw [a7]
    refine V_ige D 80 rfl rfl (by omega) (by omega) (fun q1 => absurd q1 (by omega)) (fun q1 => ?_)
    have ar : ∃ k, 3 ≤ k ∧ xAr T (N m 2) k (i : Int) := ⟨3, Nat.le_refl _, most, by rw [a4]; exact a5, by omega, by omega⟩
    have to : T (N (N m 2) ((i : Int)).toNat) = some (.inr 2) := by rw [a4, Int.toNat_natCast, e1]; exact o1
    refine V_run D [] 49 rfl ⟨to, ar, a1, by rw [a4, Int.toNat_natCast, e1, o2]; exact o4.1, to, ar, a1, trivial⟩ ?_
    rw [a4, Int.toNat_natCast, e1, o2, o3, o4.2.2.2.1]
    refine V_askS (av := [.inl ((od g.2.2.2.2.1 i).1 - lastn 0 (g.2.2.2.2.1.take i))]) (st := [.inl 1, .inl ((4 + g.2.2.2.1.length + (wos 0 (g.2.2.2.2.1.take i)).length : Nat) : Int)]) D mwX1_moreBytes rfl lkX1_X1_moreBytes (s_moreBytes (by omega)) rfl ⟨Nat.le_refl _, Nat.le_refl _⟩ ?_
    refine V_run D [] 55 rfl trivial ?_
    refine V_askS (av := [.inl ((od g.2.2.2.2.1 i).2.length : Int)]) (st := [.inl (1 + (mb ((od g.2.2.2.2.1 i).1 - lastn 0 (g.2.2.2.2.1.take i)) : Int)), .inl ((4 + g.2.2.2.1.length + (wos 0 (g.2.2.2.2.1.take i)).length : Nat) : Int)]) D mwX1_moreBytes rfl lkX1_X1_moreBytes (s_moreBytes (by omega)) rfl ⟨Nat.le_refl _, Nat.le_refl _⟩ ?_
    refine V_run D [14] 14 rfl ⟨to, ar, a1, trivial⟩ ?_
    rw [a4, Int.toNat_natCast, e1, o3]
    have e2 : ((4 + g.2.2.2.1.length + (wos 0 (g.2.2.2.2.1.take i)).length : Nat) : Int) + (1 + (mb ((od g.2.2.2.2.1 i).1 - lastn 0 (g.2.2.2.2.1.take i)) : Int) + (mb ((od g.2.2.2.2.1 i).2.length : Int) : Int) + ((od g.2.2.2.2.1 i).2.length : Int)) = ((4 + g.2.2.2.1.length + (wos 0 (g.2.2.2.2.1.take (i + 1))).length : Nat) : Int) := by
      rw [otake_snoc (by omega), wos_snoc, List.length_append, wo_len]; omega
    have e3 : (od g.2.2.2.2.1 i).1 = lastn 0 (g.2.2.2.2.1.take (i + 1)) := by rw [otake_snoc (by omega), lastn_snoc]
    rw [e2, e3]
    refine V_loc [some (.inr (.inr m)), some (.inl ((4 + g.2.2.2.1.length + (wos 0 (g.2.2.2.2.1.take (i + 1))).length : Nat) : Int)), some (.inl (lastn 0 (g.2.2.2.2.1.take (i + 1)))), some (.inl ((i + 1 : Nat) : Int))] rfl ?_
    exact l_size D h0 hok d (i + 1) (by omega)
theorem s_size (h : MAt T I N m most g lat) (hok : MOk g) : Spec mX1_writtenSize 1 [.inr (.inr m)] z T I N 0 0 (xSame z T I N (some (.inl ((wr g).length : Int)))) := by
  have h0 := h
  obtain ⟨⟨a1, a2, a3, a4, a5, a6, a7, a8⟩, ⟨b1, b2, b3⟩, c1, c2, ⟨f, f1, f2, f3, f4⟩, l1⟩ := h
  refine Spec_of okX1_writtenSize (by decide) (by decide) (Nat.le_of_ble_eq_true rfl) fun Γ E D => ?_
  refine V_run D [14] 14 rfl ⟨by rw [a2]; exact c1.1, a1, trivial⟩ ?_
  rw [a2, c1.2.2.2.1]
  have e : (4 : Int) + (g.2.2.2.1.length : Int) = ((4 + g.2.2.2.1.length + (wos 0 (g.2.2.2.2.1.take 0)).length : Nat) : Int) := by simp [wos]
  rw [e]
  refine V_loc [some (.inr (.inr m)), some (.inl ((4 + g.2.2.2.1.length + (wos 0 (g.2.2.2.2.1.take 0)).length : Nat) : Int)), some (.inl (lastn 0 (g.2.2.2.2.1.take 0))), some (.inl ((0 : Nat) : Int))] rfl ?_
  exact l_size D h0 hok _ 0 (Nat.zero_add _)
/-- what stands ahead of the options -/
def whd (g : Msg) : List Int := (64 + 16 * g.1 + g.2.2.2.1.length) :: g.2.1 :: (hib g.2.2.1 2 ++ g.2.2.2.1)
theorem whd_len (g : Msg) : (whd g).length = 4 + g.2.2.2.1.length := by unfold whd; simp [hib_len]; omega
theorem wr_eq (g : Msg) : wr g = whd g ++ (wos 0 g.2.2.2.2.1 ++ (if g.2.2.2.2.2 = [] then [] else 255 :: g.2.2.2.2.2)) := by unfold wr whd; simp
theorem l_behind (D : xD Γ E mX1_writeBehind 4 0 0) (h : MAt T I N m most g lat) (hok : MOk g) (hb : b + 2 ≤ m ∨ m + 6 + 3 * most ≤ b) (hfit : xs.length + (wr g).length ≤ room) : ∀ (d i : Nat) (I' : xI), i + d = g.2.2.2.2.1.length → (∀ a, a ≠ b → a ≠ b + 1 → I' a = I a) → BAt T I' N b room (xs ++ (whd g ++ wos 0 (g.2.2.2.2.1.take i))) →
    V Γ E (xQ Γ E (BCh z T I N b room (xs ++ wr g)) 0 0) z T I' N 0 0 51 (xlv [some (.inr (.inr m)), some (.inr (.inr b)), some (.inl (lastn 0 (g.2.2.2.2.1.take i))), some (.inl (i : Int))]) []
  | 0, i, I', hi, hfr, hB => by
    have h' : MAt T I' N m most g lat := h.kept (fun a h1 h2 => ⟨hfr a (by omega) (by omega), rfl⟩)
    obtain ⟨⟨a1, a2, a3, a4, a5, a6, a7, a8⟩, ⟨b1, b2, b3⟩, c1, c2, ⟨f, f1, f2, f3, f4⟩, l1⟩ := h'
    obtain rfl : i = g.2.2.2.2.1.length := by omega
    rw [List.take_length] at hB
    have hl := wr_len g
    refine V_run D [] 56 rfl ⟨a1, trivial⟩ ?_
    rw [a7]
    refine V_ige D 86 rfl rfl (by omega) (by omega) (fun q1 => ?_) (fun q1 => absurd q1 (by omega))
    refine V_run D [] 93 rfl ⟨by rw [a3]; exact c2.1, a1, trivial⟩ ?_
    rw [a3, c2.2.2.2.1]
    have hp := c2.2.2.2.2.1
    refine V_le D 111 rfl rfl (by omega) (fun q2 => ?_) (fun q2 => ?_)
    · have e : g.2.2.2.2.2 = [] := List.length_eq_zero_iff.mp (by omega)
      refine V_vret D rfl rfl ⟨rfl, rfl, rfl, rfl, hfr, ?_⟩
      rw [wr_eq, if_pos e, List.append_nil]
      exact hB
    · have e : ¬ g.2.2.2.2.2 = [] := by intro e; rw [e] at q2; exact q2 (by simp)
      rw [if_neg e] at hl
      have hwl := whd_len g
      refine V_run D [] 100 rfl trivial ?_
      refine V_putB (av := [.inl 255]) (st := []) D mwX0_add rfl lkX1_X0_add (s_add hB) hB.1 rfl ⟨Nat.le_refl _, Nat.le_refl _⟩ (fun I2 e2 d1 => ?_)
      rw [if_pos (by simp; omega), Int.emod_eq_of_lt (by omega) (by omega)] at d1
      refine V_run D [] 108 rfl ⟨a1, trivial⟩ ?_
      rw [a3]
      have c2' : BAt T I2 N (m + 3) 400 g.2.2.2.2.2 := c2.kept (e2 _ (by omega) (by omega)) (e2 _ (by omega) (by omega)) rfl
      refine V_putB (av := [.inr (.inr (m + 3))]) (st := []) D mwX0_addAll rfl lkX1_X0_addAll (s_addAll d1 c2' (by omega)) hB.1 rfl ⟨Nat.le_refl _, Nat.le_refl _⟩ (fun I3 e3 d2 => ?_)
      rw [if_pos (by simp; omega)] at d2
      refine V_vret D rfl rfl ⟨rfl, rfl, rfl, rfl, fun a h1 h2 => by rw [e3 a h1 h2, e2 a h1 h2, hfr a h1 h2], ?_⟩
      rw [wr_eq, if_neg e]
      simpa using d2
  | d + 1, i, I', hi, hfr, hB => by
    have h' : MAt T I' N m most g lat := h.kept (fun a h1 h2 => ⟨hfr a (by omega) (by omega), rfl⟩)
    obtain ⟨⟨a1, a2, a3, a4, a5, a6, a7, a8⟩, ⟨b1, b2, b3⟩, c1, c2, ⟨f, f1, f2, f3, f4⟩, l1⟩ := h'
    obtain ⟨fi1, e1⟩ := f1 i (by omega)
    have hO := f4 i (by omega)
    obtain ⟨o1, o2, o3, o4⟩ := id hO
    have hat := hok.2.2.2.2.1.at (i := i) (by omega)
    have hl := wr_len g
    have hwl := whd_len g
    have hpl := wos_take_le 0 g.2.2.2.2.1 (i + 1)
    have hsn : (wos 0 (g.2.2.2.2.1.take (i + 1))) = wos 0 (g.2.2.2.2.1.take i) ++ wo (lastn 0 (g.2.2.2.2.1.take i)) (od g.2.2.2.2.1 i) := by rw [otake_snoc (by omega), wos_snoc]
    rw [hsn, List.length_append] at hpl
    refine V_run D [] 56 rfl ⟨a1, trivial⟩ ?_
    rw [a7]
    refine V_ige D 86 rfl rfl (by omega) (by omega) (fun q1 => absurd q1 (by omega)) (fun q1 => ?_)
    have ar : ∃ k, 3 ≤ k ∧ xAr T (N m 2) k (i : Int) := ⟨3, Nat.le_refl _, most, by rw [a4]; exact a5, by omega, by omega⟩
    have to : T (N (N m 2) ((i : Int)).toNat) = some (.inr 2) := by rw [a4, Int.toNat_natCast, e1]; exact o1
    refine V_run D [] 67 rfl ⟨ar, a1, trivial⟩ ?_
    rw [a4, Int.toNat_natCast, e1]
    refine V_putBS (av := [.inr (.inr (m + 6 + 3 * f i)), .inl (lastn 0 (g.2.2.2.2.1.take i)), .inr (.inr b)]) (st := []) D mwX1_writeOption rfl lkX1_X1_writeOption (s_writeOption hO hB (by omega) (by omega) (by show _ + (wo (lastn 0 (g.2.2.2.2.1.take i)) (od g.2.2.2.2.1 i)).length ≤ room; rw [List.length_append, List.length_append]; omega)) rfl ⟨Nat.le_refl _, Nat.le_refl _⟩ (fun I2 e2 d1 => ?_)
    have i9 : I2 (m + 6 + 3 * f i) = I' (m + 6 + 3 * f i) := e2 _ (by omega) (by omega)
    refine V_run D [51] 51 rfl ⟨to, ar, a1, trivial⟩ ?_
    rw [a4, Int.toNat_natCast, e1, i9, o3]
    have e3 : (od g.2.2.2.2.1 i).1 = lastn 0 (g.2.2.2.2.1.take (i + 1)) := by rw [otake_snoc (by omega), lastn_snoc]
    rw [e3]
    refine V_loc [some (.inr (.inr m)), some (.inr (.inr b)), some (.inl (lastn 0 (g.2.2.2.2.1.take (i + 1)))), some (.inl ((i + 1 : Nat) : Int))] rfl ?_
    refine l_behind D h hok hb hfit d (i + 1) I2 (by omega) (fun a h1 h2 => by rw [e2 a h1 h2, hfr a h1 h2]) ?_
    rw [hsn]
    simpa using d1
theorem s_behind (h : MAt T I N m most g lat) (hok : MOk g) (hB : BAt T I N b room xs) (hb : b + 2 ≤ m ∨ m + 6 + 3 * most ≤ b) (hfit : xs.length + (wr g).length ≤ room) : Spec mX1_writeBehind 4 [.inr (.inr m), .inr (.inr b)] z T I N 0 0 (BCh z T I N b room (xs ++ wr g)) := by
  have h0 := h
  obtain ⟨⟨a1, a2, a3, a4, a5, a6, a7, a8⟩, ⟨b1, b2, b3⟩, c1, c2, ⟨f, f1, f2, f3, f4⟩, l1⟩ := h
  have hl := wr_len g
  obtain ⟨k1, k2, k3, ⟨k4, k4l⟩, k5, k6, k7⟩ := hok
  refine Spec_of okX1_writeBehind (by decide) (by decide) (Nat.le_of_ble_eq_true rfl) fun Γ E D => ?_
  refine V_run D [] 19 rfl ⟨by rw [a2]; exact c1.1, a1, a1, trivial⟩ ?_
  rw [a2, c1.2.2.2.1, b1]
  refine V_putB (av := [.inl (64 + 16 * g.1 + (g.2.2.2.1.length : Int))]) (st := []) D mwX0_add rfl lkX1_X0_add (s_add hB) hB.1 rfl ⟨Nat.le_refl _, Nat.le_refl _⟩ (fun I2 e2 d1 => ?_)
  rw [if_pos (by omega), Int.emod_eq_of_lt (by omega) (by omega)] at d1
  refine V_run D [] 27 rfl ⟨a1, trivial⟩ ?_
  rw [e2 m (by omega) (by omega), b2]
  refine V_putB (av := [.inl g.2.1]) (st := []) D mwX0_add rfl lkX1_X0_add (s_add d1) hB.1 rfl ⟨Nat.le_refl _, Nat.le_refl _⟩ (fun I3 e3 d2 => ?_)
  rw [if_pos (by simp; omega), Int.emod_eq_of_lt (by omega) (by omega)] at d2
  refine V_run D [] 36 rfl ⟨a1, trivial⟩ ?_
  rw [e3 m (by omega) (by omega), e2 m (by omega) (by omega), b3]
  refine V_putB (av := [.inl g.2.2.1, .inl ((2 : Nat) : Int)]) (st := []) D mwX0_addHighFirst rfl lkX1_X0_addHighFirst (s_addHigh d2 (by omega) (by simp; omega)) hB.1 rfl ⟨Nat.le_refl _, Nat.le_refl _⟩ (fun I4 e4 d3 => ?_)
  refine V_run D [] 44 rfl ⟨a1, trivial⟩ ?_
  rw [a2]
  have fr : ∀ a, a ≠ b → a ≠ b + 1 → I4 a = I a := fun a h1 h2 => by rw [e4 a h1 h2, e3 a h1 h2, e2 a h1 h2]
  have c1' : BAt T I4 N (m + 1) 8 g.2.2.2.1 := c1.kept (fr _ (by omega) (by omega)) (fr _ (by omega) (by omega)) rfl
  refine V_putB (av := [.inr (.inr (m + 1))]) (st := []) D mwX0_addAll rfl lkX1_X0_addAll (s_addAll d3 c1' (by omega)) hB.1 rfl ⟨Nat.le_refl _, Nat.le_refl _⟩ (fun I5 e5 d4 => ?_)
  rw [if_pos (by simp [hib_len]; omega)] at d4
  refine V_run D [51] 51 rfl trivial ?_
  refine V_loc [some (.inr (.inr m)), some (.inr (.inr b)), some (.inl (lastn 0 (g.2.2.2.2.1.take 0))), some (.inl ((0 : Nat) : Int))] rfl ?_
  refine l_behind D h0 ⟨k1, k2, k3, ⟨k4, k4l⟩, k5, k6, k7⟩ hb hfit _ 0 I5 (Nat.zero_add _) (fun a h1 h2 => by rw [e5 a h1 h2, fr a h1 h2]) ?_
  unfold whd
  simpa [wos] using d4
end XW2
