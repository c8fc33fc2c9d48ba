/-! what a run keeps -/
def DkI (n : Nat) (x : Dk) : Prop := DkOk x ∧ (0 ≤ x.2.2.2.1.1 ∧ x.2.2.2.1.1 ≤ n) ∧ (0 ≤ x.2.2.2.1.2.1 ∧ x.2.2.2.1.2.1 ≤ n) ∧ ∀ k, k < 10 → (x.2.2.2.2 k).2 ≤ n
theorem OsOk.app : ∀ {xs ys : List Opt} {b : Int}, OsOk b xs → OsOk (lastn b xs) ys → OsOk b (xs ++ ys)
  | [], _, _, _, h => h
  | q :: r, ys, b, h, h' => by
    obtain ⟨h1, h2, h3, h4, h5⟩ := h
    exact ⟨h1, h2, h3, h4, h5.app h'⟩
theorem OsOk.drop : ∀ {xs : List Opt} {b : Int} (n : Nat), OsOk b xs → OsOk (lastn b (xs.take n)) (xs.drop n)
  | xs, b, 0, h => h
  | [], b, n + 1, h => trivial
  | q :: r, b, n + 1, h => by
    obtain ⟨h1, h2, h3, h4, h5⟩ := h
    exact h5.drop n
theorem OsOk.from {xs : List Opt} {b c : Int} (h : OsOk b xs) (hc : ∀ q ∈ xs.head?, c ≤ q.1) : OsOk c xs := by
  cases xs with
  | nil => trivial
  | cons q r =>
    obtain ⟨h1, h2, h3, h4, h5⟩ := h
    exact ⟨hc q (by simp), h2, h3, h4, h5⟩
theorem ipos_up (n : Int) (os : List Opt) : ∀ k j, ipos n os k ≤ j → j < k → n < (od os j).1
  | 0, j, _, h => absurd h (by omega)
  | k + 1, j, h1, h2 => by
    unfold ipos at h1
    split at h1
    · by_cases c : j = k
      · rw [c]; assumption
      · exact ipos_up n os k j h1 (by omega)
    · omega
theorem ipos_dn (n : Int) (os : List Opt) : ∀ k, 0 < ipos n os k → (od os (ipos n os k - 1)).1 ≤ n
  | 0, h => absurd h (by simp [ipos])
  | k + 1, h => by
    unfold ipos at h ⊢
    split
    · rename_i c
      rw [if_pos c] at h
      exact ipos_dn n os k h
    · rw [Nat.add_sub_cancel]; omega
theorem lastn_take (b : Int) (os : List Opt) (p : Nat) (hp : p ≤ os.length) : lastn b (os.take p) = if p = 0 then b else (od os (p - 1)).1 := by
  cases p with
  | zero => rfl
  | succ p => rw [otake_snoc (by omega), lastn_snoc, if_neg (by omega), Nat.add_sub_cancel]
theorem OsOk.ins {os : List Opt} {num : Int} {v : List Int} (h : OsOk 0 os) (hn : 0 ≤ num ∧ num ≤ 65535) (hv : BsOk v) (hl : v.length ≤ 400) : OsOk 0 (inso (ipos num os os.length) (num, v) os) := by
  have hp := ipos_le num os os.length
  have hu := ipos_up num os os.length
  have hd := ipos_dn num os os.length
  generalize ipos num os os.length = p at *
  unfold inso
  refine (h.take p).app ⟨?_, hn.2, hv, hl, (h.drop p).from (fun q hq => ?_)⟩
  · rw [lastn_take _ _ _ hp]
    split
    · exact hn.1
    · exact hd (by omega)
  · by_cases c : p < os.length
    · have := hu p (Nat.le_refl _) c
      rw [od_get c] at this
      rw [List.head?_drop, List.getElem?_eq_getElem c] at hq
      cases hq
      show num ≤ _
      omega
    · rw [List.drop_of_length_le (by omega)] at hq
      simp at hq
theorem OsOk.set : ∀ {os : List Opt} {b : Int} {p : Nat} {v : List Int}, OsOk b os → p < os.length → BsOk v → v.length ≤ 400 → OsOk b (os.set p ((od os p).1, v))
  | [], _, _, _, _, h, _, _ => by simp at h
  | q :: r, b, 0, v, h, _, hv, hl => by
    obtain ⟨h1, h2, h3, h4, h5⟩ := h
    exact ⟨h1, h2, hv, hl, h5⟩
  | q :: r, b, p + 1, v, h, hp, hv, hl => by
    obtain ⟨h1, h2, h3, h4, h5⟩ := h
    have e : od (q :: r) (p + 1) = od r p := by unfold od; simp
    rw [e]
    exact ⟨h1, h2, h3, h4, h5.set (by simpa using hp) hv hl⟩
theorem BsOk.cons {b : Int} {xs : List Int} (hb : 0 ≤ b ∧ b < 256) (h : BsOk xs) : BsOk (b :: xs) := fun v hv => by
  rcases List.mem_cons.mp hv with r | r
  · rw [r]; exact hb
  · exact h v r
theorem wos_ok : ∀ {os : List Opt} {b : Int}, OsOk b os → BsOk (wos b os)
  | [], _, _ => BsOk.nil
  | q :: r, b, h => by
    obtain ⟨h1, h2, h3, h4, h5⟩ := h
    have s1 := sf_rng (x := q.1 - b) (by omega)
    have s2 := sf_rng (x := (q.2.length : Int)) (by omega)
    have w1 : BsOk (wm (q.1 - b)) := hib_rng _ _
    have w2 : BsOk (wm (q.2.length : Int)) := hib_rng _ _
    exact (BsOk.cons (by omega) (w1.app (w2.app h3))).app (wos_ok h5)
theorem wr_ok {g : Msg} (h : MOk g) : BsOk (wr g) := by
  obtain ⟨k1, k2, k3, ⟨k4, k4l⟩, k5, k6, k7⟩ := h
  unfold wr
  have w1 : BsOk (hib g.2.2.1 2) := hib_rng _ _
  refine BsOk.cons (by omega) (BsOk.cons (by omega) (w1.app (k4.app ((wos_ok k5).app ?_))))
  split
  · exact BsOk.nil
  · exact BsOk.cons (by omega) k6
theorem tk_ok {s : Sv} {g : Msg} {p n : Nat} (hs : SvOk s) (hg : MOk g) (hl : g.2.2.2.2.1.length ≤ 20) (hp : p < 10) (h1 : 0 ≤ s.2.1.1 ∧ s.2.1.1 ≤ n) (h2 : 0 ≤ s.2.1.2.1 ∧ s.2.1.2.1 ≤ n) (h3 : ∀ k, k < 10 → (s.2.2 k).2 ≤ n) :
    xIn (tk s g p).1 ∧ SvOk (tk s g p).2.2 ∧ (0 ≤ (tk s g p).2.2.2.1.1 ∧ (tk s g p).2.2.2.1.1 ≤ (n + 1 : Nat)) ∧ (0 ≤ (tk s g p).2.2.2.1.2.1 ∧ (tk s g p).2.2.2.1.2.1 ≤ (n + 1 : Nat)) ∧ ∀ k, k < 10 → ((tk s g p).2.2.2.2 k).2 ≤ n + 1 := by
  have base : SvOk s ∧ (0 ≤ s.2.1.1 ∧ s.2.1.1 ≤ (n + 1 : Nat)) ∧ (0 ≤ s.2.1.2.1 ∧ s.2.1.2.1 ≤ (n + 1 : Nat)) ∧ ∀ k, k < 10 → (s.2.2 k).2 ≤ n + 1 := ⟨hs, by omega, by omega, fun k hk => by have := h3 k hk; omega⟩
  unfold tk
  split
  · exact ⟨by dsimp only; omega, base⟩
  · split
    · split
      · exact ⟨by dsimp only; omega, base⟩
      · exact ⟨by dsimp only; omega, base⟩
    · split
      · rename_i hf
        have hPr := hs.2.2.2.2 p hp
        have hb : xIn (bat (od (s.2.2 p).1 (fi g.2.2.1 (s.2.2 p).1)).2 1) := by
          by_cases c : fi g.2.2.1 (s.2.2 p).1 < (s.2.2 p).2
          · have := bat_rng ((hPr.2 _ hf).2 c).2.1 1
            constructor <;> omega
          · have e := (hPr.2 _ hf).1 (by omega)
            have e2 := fi_at (n := g.2.2.1) (os := (s.2.2 p).1) (by rw [hPr.1]; exact hf)
            have := hg.2.2.1
            omega
        exact ⟨hb, hs, by dsimp only; omega, by dsimp only; omega, base.2.2.2⟩
      · have ha := actK_ok (k := rfi (pe (pth g.2.2.2.2.1)) s.1.1) hs.1 hs.2.1 hs.2.2.1 hg hl
        obtain ⟨aok, alen⟩ := ansM_ok hs hg hl
        have hPr := hs.2.2.2.2 p hp
        have ho := hs.2.2.2.1
        have hw := wr_len (ansM s g)
        refine ⟨?_, ⟨ha.2.1, ha.2.2.1, ha.2.2.2, ?_, fun k hk => ?_⟩, by dsimp only; omega, by dsimp only; omega, fun k hk => ?_⟩
        · have := ha.1.1
          show xIn (actK _ s.1.1 s.1.2 g).1.1
          constructor <;> omega
        · dsimp only; split <;> omega
        · dsimp only
          by_cases c : k = p
          · subst c
            have eu : (va_up s.2.2 k ((s.2.2 k).1.set ((s.2.2 k).2 % 8) (g.2.2.1, wr (ansM s g)), (s.2.2 k).2 + 1)) k = ((s.2.2 k).1.set ((s.2.2 k).2 % 8) (g.2.2.1, wr (ansM s g)), (s.2.2 k).2 + 1) := by unfold va_up; rw [if_pos rfl]
            rw [eu]
            refine ⟨by dsimp only; rw [List.length_set]; exact hPr.1, fun j hj => ?_⟩
            dsimp only
            rw [od_set (by rw [hPr.1]; omega)]
            by_cases cj : j = (s.2.2 k).2 % 8
            · rw [if_pos cj]
              exact ⟨fun h => absurd h (by omega), fun _ => ⟨hg.2.2.1, wr_ok aok, by dsimp only; omega, alen⟩⟩
            · rw [if_neg cj]
              exact ⟨fun h => (hPr.2 j hj).1 (by omega), fun h => (hPr.2 j hj).2 (by omega)⟩
          · have eu : (va_up s.2.2 p ((s.2.2 p).1.set ((s.2.2 p).2 % 8) (g.2.2.1, wr (ansM s g)), (s.2.2 p).2 + 1)) k = s.2.2 k := by unfold va_up; rw [if_neg c]
            rw [eu]; exact hs.2.2.2.2 k hk
        · dsimp only
          by_cases c : k = p
          · subst c
            have eu : (va_up s.2.2 k ((s.2.2 k).1.set ((s.2.2 k).2 % 8) (g.2.2.1, wr (ansM s g)), (s.2.2 k).2 + 1)) k = ((s.2.2 k).1.set ((s.2.2 k).2 % 8) (g.2.2.1, wr (ansM s g)), (s.2.2 k).2 + 1) := by unfold va_up; rw [if_pos rfl]
            rw [eu]; have := h3 k hk; dsimp only; omega
          · have eu : (va_up s.2.2 p ((s.2.2 p).1.set ((s.2.2 p).2 % 8) (g.2.2.1, wr (ansM s g)), (s.2.2 p).2 + 1)) k = s.2.2 k := by unfold va_up; rw [if_neg c]
            rw [eu]; have := h3 k hk; omega
theorem DkI.up {n : Nat} {x : Dk} (h : DkI n x) : DkI (n + 1) x := ⟨h.1, by have := h.2.1; omega, by have := h.2.2.1; omega, fun k hk => by have := h.2.2.2 k hk; omega⟩
theorem dk0_ok : DkI 0 dk0 := by
  refine ⟨⟨⟨by simp [dk0], by simp [dk0], by simp [dk0], ⟨BsOk.nil, by simp [dk0]⟩, trivial, BsOk.nil, by simp [dk0]⟩, fun x hx => by simp [dk0, sv0] at hx, by simp [dk0, sv0], by simp [dk0, sv0], by simp [dk0, sv0], fun k hk => ⟨rfl, fun j hj => ⟨fun _ => ?_, fun h => by simp [dk0, sv0] at h⟩⟩⟩, by simp [dk0, sv0], by simp [dk0, sv0], fun k hk => by simp [dk0, sv0]⟩
  show (od ring0 j).1 = -1
  unfold od ring0
  rw [List.getD_eq_getElem?_getD, List.getElem?_replicate, if_pos hj]
  rfl
/-- what a call leaves -/
def OkO (n : Nat) (o : Nat × Int × Dk) : Prop := DkI (n + 1) o.2.2 ∧ xIn o.2.1
section XMa
variable {n : Nat} {x : Dk}
theorem OkO.same (h : DkI n x) {k : Nat} {v : Int} (hv : xIn v) : OkO n (k, v, x) := ⟨h.up, hv⟩
theorem o_begin (h : DkI n x) (ty co id w m : Int) : OkO n (dBegin x ty co id w m) := by
  unfold dBegin
  split
  · rename_i c
    exact ⟨⟨⟨⟨c.1, c.2.1, c.2.2.1, ⟨lows_ok w m, by dsimp only; rw [lows_len]; omega⟩, trivial, BsOk.nil, by simp⟩, h.1.2⟩, h.up.2⟩, by dsimp only; omega⟩
  · exact OkO.same h (by omega)
theorem o_option (h : DkI n x) (num w m : Int) : OkO n (dOption x num w m) := by
  unfold dOption
  split
  · exact OkO.same h (by omega)
  · rename_i c
    have c' : (0 ≤ num ∧ num ≤ 65535) ∧ 0 ≤ m ∧ m ≤ 8 := Classical.not_not.mp c
    split
    · exact OkO.same h (by omega)
    · rename_i c2
      obtain ⟨k1, k2, k3, k4, k5, k6, k7⟩ := h.1.1
      exact ⟨⟨⟨⟨k1, k2, k3, k4, k5.ins c'.1 (lows_ok w m) (by rw [lows_len]; omega), k6, k7⟩, h.1.2⟩, h.up.2⟩, by dsimp only; omega⟩
theorem o_longer (h : DkI n x) (hl : ∀ l, x.2.1.2 = some l → l < x.2.1.1.2.2.2.2.1.length) (w m : Int) : OkO n (dLonger x w m) := by
  unfold dLonger
  split
  · exact OkO.same h (by omega)
  · rename_i c
    split
    · exact OkO.same h (by omega)
    · rename_i l hll
      split
      · exact OkO.same h (by omega)
      · rename_i c2
        obtain ⟨k1, k2, k3, k4, k5, k6, k7⟩ := h.1.1
        have hL := OL_of k5 (Int.le_refl _) l (hl l hll)
        exact ⟨⟨⟨⟨k1, k2, k3, k4, k5.set (hl l hll) (hL.2.2.app (lows_ok w m)) (by rw [List.length_append, lows_len]; omega), k6, k7⟩, h.1.2⟩, h.up.2⟩, by dsimp only; omega⟩
theorem o_payload (h : DkI n x) (w m : Int) : OkO n (dPayload x w m) := by
  unfold dPayload
  split
  · exact OkO.same h (by omega)
  · split
    · exact OkO.same h (by omega)
    · obtain ⟨k1, k2, k3, k4, k5, k6, k7⟩ := h.1.1
      exact ⟨⟨⟨⟨k1, k2, k3, k4, k5, k6.app (lows_ok w m), by dsimp only; rw [List.length_append, lows_len]; omega⟩, h.1.2⟩, h.up.2⟩, by dsimp only; omega⟩
theorem o_write (h : DkI n x) : OkO n (dWrite x) := by
  unfold dWrite
  split
  · exact OkO.same h (by omega)
  · exact ⟨⟨⟨h.1.1, h.1.2⟩, h.up.2⟩, by dsimp only; omega⟩
theorem o_feed (h : DkI n x) (w m : Int) : OkO n (dFeed x w m) := by
  unfold dFeed
  split
  · exact OkO.same h (by omega)
  · split
    · exact OkO.same h (by omega)
    · exact ⟨⟨⟨h.1.1, h.1.2⟩, h.up.2⟩, by dsimp only; omega⟩
theorem o_end (h : DkI n x) (m : Int) : OkO n (dEnd x m) := by
  unfold dEnd
  split
  · exact ⟨⟨⟨h.1.1, h.1.2⟩, h.up.2⟩, by dsimp only; omega⟩
  · exact OkO.same h (by omega)
theorem o_read (h : DkI n x) (hb : BsOk x.1) : OkO n (dRead x) := by
  have hr := rd_rng x.1
  unfold dRead
  split
  · exact OkO.same h (by constructor <;> omega)
  · split
    · exact OkO.same h (by omega)
    · exact ⟨⟨⟨(rd_ok hb (by omega)).1, h.1.2⟩, h.up.2⟩, by dsimp only; omega⟩
theorem o_about (h : DkI n x) (hn : x.2.1.1.2.2.2.2.1.length ≤ 20) (w : Int) : OkO n (dAbout x w) := by
  obtain ⟨k1, k2, k3, k4, k5, k6, k7⟩ := h.1.1
  unfold dAbout
  split
  · exact OkO.same h (by omega)
  · refine OkO.same h ?_
    split
    · constructor <;> omega
    · split
      · constructor <;> omega
      · split
        · constructor <;> omega
        · split
          · constructor <;> omega
          · split <;> constructor <;> omega
theorem o_byteOf (h : DkI n x) (p i : Int) : OkO n (dByteOf x p i) := by
  obtain ⟨k1, k2, k3, k4, k5, k6, k7⟩ := h.1.1
  have hb : ∀ v : List Int, BsOk v → xIn (bat v i) := fun v hv => by have := bat_rng hv i; constructor <;> omega
  unfold dByteOf
  split
  · exact OkO.same h (hb _ k4.1)
  · split
    · exact OkO.same h (hb _ k6)
    · split
      · exact OkO.same h (hb _ (OL_of k5 (Int.le_refl _) p.toNat (by omega)).2.2)
      · exact OkO.same h (by omega)
theorem o_optionAt (h : DkI n x) (k w : Int) : OkO n (dOptionAt x k w) := by
  unfold dOptionAt
  split
  · exact OkO.same h (by omega)
  · rename_i c
    have hL := OL_of h.1.1.2.2.2.2.1 (Int.le_refl _) k.toNat (by omega)
    refine OkO.same h ?_
    split
    · constructor <;> omega
    · split
      · constructor <;> omega
      · unfold bm32
        have h1 := Int.le_bmod (x := wn (od x.2.1.1.2.2.2.2.1 k.toNat).2) (m := 4294967296) (by decide)
        have h2 := Int.bmod_lt (x := wn (od x.2.1.1.2.2.2.2.1 k.toNat).2) (m := 4294967296) (by decide)
        constructor <;> omega
theorem o_serve (h : DkI n x) (hb : BsOk x.1) (p : Int) : OkO n (dServe x p) := by
  have hr := rd_rng x.1
  unfold dServe
  split
  · exact OkO.same h (by omega)
  · split
    · exact ⟨⟨⟨h.1.1, h.1.2⟩, h.up.2⟩, by dsimp only; omega⟩
    · obtain ⟨t1, t2, t3, t4, t5⟩ := tk_ok (p := p.toNat) h.1.2 (rd_ok hb (by omega)).1 (by omega) (by omega) h.2.1 h.2.2.1 h.2.2.2
      exact ⟨⟨⟨h.1.1, t2⟩, t3, t4, t5⟩, t1⟩
theorem o_total (h : DkI n x) (hl : x.1.length ≤ 2000) (hn : n < 2147483647) (w : Int) : OkO n (dTotal x w) := by
  obtain ⟨s1, s2, s3, s4, s5⟩ := h.1.2
  have c1 := h.2.1
  have c2 := h.2.2.1
  unfold dTotal
  split
  · exact OkO.same h (by omega)
  · refine OkO.same h ?_
    split
    · constructor <;> omega
    · split
      · constructor <;> omega
      · split
        · constructor <;> omega
        · split
          · constructor <;> omega
          · split <;> constructor <;> omega
theorem o_resource (h : DkI n x) (k w : Int) : OkO n (dResource x k w) := by
  unfold dResource
  split
  · exact OkO.same h (by omega)
  · rename_i c
    have hR := h.1.2.1 _ (rsd_mem (rs := x.2.2.1.1) (k := k.toNat) (by omega))
    refine OkO.same h ?_
    obtain ⟨r1, r2, r3, r4, r5⟩ := hR
    split
    · constructor <;> omega
    · split <;> constructor <;> omega
end XMa
