/-! the server whole -/
/-- (resources, tags), (served, repeated, own ID), for each peer its latest and how many there were -/
abbrev Sv : Type := (List Res × Int) × (Int × Int × Int) × (Nat → List Opt × Nat)
def ansM (s : Sv) (g : Msg) : Msg := ((if g.1 = 0 then 2 else 1), (act s.1.1 s.1.2 g).1.1, (if g.1 = 0 then g.2.2.1 else s.2.1.2.2), g.2.2.2.1, (act s.1.1 s.1.2 g).1.2.1, (act s.1.1 s.1.2 g).1.2.2)
def tk (s : Sv) (g : Msg) (p : Nat) : Int × List Int × Sv :=
  if 1 < g.1 then (-1, [], s) else
  if g.2.1 = 0 ∨ 31 < g.2.1 then (if g.1 = 0 then (0, wr (3, 0, g.2.2.1, [], [], []), s) else (-1, [], s)) else
  if fi g.2.2.1 (s.2.2 p).1 < 8 then (bat (od (s.2.2 p).1 (fi g.2.2.1 (s.2.2 p).1)).2 1, (od (s.2.2 p).1 (fi g.2.2.1 (s.2.2 p).1)).2, (s.1, (s.2.1.1, s.2.1.2.1 + 1, s.2.1.2.2), s.2.2)) else
  ((act s.1.1 s.1.2 g).1.1, wr (ansM s g), ((act s.1.1 s.1.2 g).2, (s.2.1.1 + 1, s.2.1.2.1, (if g.1 = 0 then s.2.1.2.2 else (s.2.1.2.2 + 1) % 65536)), va_up s.2.2 p ((s.2.2 p).1.set ((s.2.2 p).2 % 8) (g.2.2.1, wr (ansM s g)), (s.2.2 p).2 + 1)))
def PrOk (x : List Opt × Nat) : Prop := x.1.length = 8 ∧ ∀ j, j < 8 → (x.2 ≤ j → (od x.1 j).1 = -1) ∧ (j < x.2 → (0 ≤ (od x.1 j).1 ∧ (od x.1 j).1 ≤ 65535) ∧ BsOk (od x.1 j).2 ∧ 2 ≤ (od x.1 j).2.length ∧ (od x.1 j).2.length ≤ 421)
def SvOk (s : Sv) : Prop := (∀ x ∈ s.1.1, ROk x) ∧ s.1.1.length ≤ 16 ∧ (0 ≤ s.1.2 ∧ s.1.2 ≤ 65535) ∧ (0 ≤ s.2.1.2.2 ∧ s.2.1.2.2 ≤ 65535) ∧ ∀ k, k < 10 → PrOk (s.2.2 k)
def SvAt (T : xY) (I : xI) (N : xN) (q : Nat) (s : Sv) : Prop := (∃ a v n, SvC T I N q s.1.1 s.1.2 a v n) ∧ (I q 5 = s.2.1.1 ∧ I q 6 = s.2.1.2.1 ∧ I q 7 = s.2.1.2.2) ∧ ∀ k, k < 10 → PAt T I N (q + 98 + 26 * k) (s.2.2 k).1 ((s.2.2 k).2 % 8)
section XSv7
variable {Γ : xG} {E : xE} {z : Nat} {T : xY} {I : xI} {N : xN} {q o m most p b room : Nat} {n : Int} {v xs : List Int} {a g : Msg} {lat : Option Nat} {w : Res} {ty co id tags : Int} {tok : List Int} {rs : List Res} {s : Sv}
theorem SvC.kept (h : SvC T I N q rs tags a v n) {I' : xI} {N' : xN} (hk : ∀ a, q ≤ a → a < q + 98 → I' a = I a ∧ N' a = N a) : SvC T I' N' q rs tags a v n := by
  obtain ⟨⟨a1, a2, a3, a4, a5, a6, a7⟩, b1, c1, ⟨lat, c2⟩, c3⟩ := h
  have hq := hk q (by omega) (by omega)
  exact ⟨⟨a1, by rw [hq.2]; exact a2, by rw [hq.2]; exact a3, by rw [hq.2]; exact a4, by rw [hq.2]; exact a5, a6, fun k h => by rw [(hk (q + 83) (by omega) (by omega)).2]; exact a7 k h⟩, by rw [hq.1]; exact b1, c1.kept (fun a h1 h2 => hk a (by omega) (by omega)), ⟨lat, c2.kept (fun a h1 h2 => hk a (by omega) (by omega))⟩, c3.kept (hk _ (by omega) (by omega)).1 (hk _ (by omega) (by omega)).1 (hk _ (by omega) (by omega)).2⟩
theorem SvAt.kept (h : SvAt T I N q s) {I' : xI} {N' : xN} (hk : ∀ a, q ≤ a → a < q + 358 → I' a = I a ∧ N' a = N a) : SvAt T I' N' q s := by
  obtain ⟨⟨a, v, n, h1⟩, h2, h3⟩ := h
  have hq := hk q (by omega) (by omega)
  exact ⟨⟨a, v, n, h1.kept (fun a h1 h2 => hk a h1 (by omega))⟩, by rw [hq.1]; exact h2, fun k hk1 => (h3 k hk1).kept (fun a h1 h2 => hk a (by omega) (by omega))⟩
/-- a field of the server's own -/
theorem SvC.own (h : SvC T I N q rs tags a v n) {j : Nat} (hj : j ≠ 4) (x : Int) : SvC T (xup I q j x) N q rs tags a v n := by
  obtain ⟨⟨a1, a2, a3, a4, a5, a6, a7⟩, b1, c1, ⟨lat, c2⟩, c3⟩ := h
  refine ⟨⟨a1, a2, a3, a4, a5, a6, a7⟩, ?_, c1.kept (fun a h1 h2 => ⟨xup_ne (by omega), rfl⟩), ⟨lat, c2.kept (fun a h1 h2 => ⟨xup_ne (by omega), rfl⟩)⟩, c3.kept (xup_ne (by omega)) (xup_ne (by omega)) rfl⟩
  rw [xup_at]; unfold va_up; rw [if_neg (by omega)]; exact b1
theorem MAt.setCode (h : MAt T I N m most g lat) (x : Int) : MAt T (xup I m 6 x) N m most (g.1, x, g.2.2.1, g.2.2.2.1, g.2.2.2.2.1, g.2.2.2.2.2) lat := by
  obtain ⟨⟨a1, a2, a3, a4, a5, a6, a7, a8⟩, ⟨b1, b2, b3⟩, c1, c2, ⟨f, f1, f2, f3, f4⟩, l1⟩ := h
  refine ⟨⟨a1, a2, a3, a4, a5, a6, ?_, a8⟩, ⟨?_, ?_, ?_⟩, c1.kept (xup_ne (by omega)) (xup_ne (by omega)) rfl, c2.kept (xup_ne (by omega)) (xup_ne (by omega)) rfl, ⟨f, f1, f2, ?_, ?_⟩, l1⟩
  · rw [xup_at]; exact a7
  · rw [xup_at]; exact b1
  · rw [xup_at]; rfl
  · rw [xup_at]; exact b3
  · intro k hk
    obtain ⟨n, v, h⟩ := f3 k hk
    exact ⟨n, v, h.kept (fun a h1 h2 => ⟨xup_ne (by omega), rfl⟩)⟩
  · intro j hj
    exact (f4 j hj).kept (fun a h1 h2 => ⟨xup_ne (by omega), rfl⟩)
def beginP (T : xY) (I : xI) (N : xN) (q : Nat) (rs : List Res) (tags : Int) (g : Msg) (own : Int) (v : List Int) (n : Int) : Option xV → xI → xN → Prop := fun r I' N' => r = none ∧ RCh q (q + 98) I N I' N' ∧ (∀ j, j ≠ 7 → I' q j = I q j) ∧ I' q 7 = (if g.1 = 0 then own else (own + 1) % 65536) ∧ SvC T I' N' q rs tags ((if g.1 = 0 then 2 else 1), 0, (if g.1 = 0 then g.2.2.1 else own), g.2.2.2.1, [], []) v n
theorem s_beginAnswer {own : Int} (hC : SvC T I N q rs tags a v n) (hg : MAt T I N m 20 g lat) (hm : m + 66 ≤ q ∨ q + 98 ≤ m) (hok : MOk g) (ho : I q 7 = own) (hor : 0 ≤ own ∧ own ≤ 65535) :
    Spec mX7_beginAnswer 3 [.inr (.inr q), .inr (.inr m)] z T I N 0 0 (xCg z T (beginP T I N q rs tags g own v n)) := by
  obtain ⟨⟨a1, a2, a3, a4, a5, a6, a7⟩, b1, c1, ⟨lat0, c2⟩, c3⟩ := _root_.id hC
  have hmT := hg.1.1
  refine Spec_of okX7_beginAnswer (by decide) (by decide) (Nat.le_of_ble_eq_true rfl) fun Γ E D => ?_
  have tail : ∀ (I1 : xI) (N1 : xN), RCh q (q + 98) I N I1 N1 → (∀ j, j ≠ 7 → I1 q j = I q j) → I1 q 7 = (if g.1 = 0 then own else (own + 1) % 65536) → SvC T I1 N1 q rs tags ((if g.1 = 0 then 2 else 1), 0, (if g.1 = 0 then g.2.2.1 else own), [], [], []) v n →
      V Γ E (xQ Γ E (xCg z T (beginP T I N q rs tags g own v n)) 0 0) z T I1 N1 0 0 49 (xlv [some (.inr (.inr q)), some (.inr (.inr m))]) [] := fun I1 N1 F1 f1 f7 C1 => by
    have hg1 : MAt T I1 N1 m 20 g lat := RCh.mat hg F1 hm
    obtain ⟨⟨-, -, -, d4, -⟩, -, -, ⟨lat1, m1⟩, -⟩ := _root_.id C1
    have t1 := m1.2.2.1
    have t2 := hg1.2.2.1
    refine V_run D [] 60 rfl ⟨hmT, by rw [d4]; exact m1.1.1, a1, trivial⟩ ?_
    rw [d4, m1.1.2.1, hg1.1.2.1]
    refine V_putB (av := [.inr (.inr (m + 1))]) (st := []) D mwX0_addAll rfl lkX7_X0_addAll (s_addAll t1 t2 (by omega)) t1.1 rfl ⟨Nat.le_refl _, Nat.le_refl _⟩ (fun I2 e2 d2 => ?_)
    have hl := hok.2.2.2.1.2
    rw [if_pos (by show 0 + _ ≤ 8; omega)] at d2
    have m2 := m1.setTok e2 d2
    have C2 := C1.ans (I' := I2) (N' := N1) (fun a ha => ⟨e2 a (by omega) (by omega), rfl⟩) ⟨_, m2⟩
    have eq2 : I2 q = I1 q := e2 q (by omega) (by omega)
    exact V_vret D rfl rfl ⟨rfl, rfl, rfl, F1.trans C2.1.1, fun j hj => by rw [eq2]; exact f1 j hj, by rw [eq2]; exact f7, C2.2⟩
  refine V_run D [] 4 rfl ⟨hmT, trivial⟩ ?_
  rw [hg.2.1.1]
  have h01 := hok.1
  refine V_ne D 23 rfl rfl (by constructor <;> omega) (fun q1 => ?_) (fun q1 => ?_)
  · rw [if_neg q1, if_neg q1, if_neg q1] at tail
    refine V_run D [] 33 rfl ⟨a1, a1, trivial⟩ ?_
    rw [a4, ho]
    refine V_chV (av := [.inl 1, .inl 0, .inl own]) (st := []) D mwX1_restart rfl lkX7_X1_restart (s_restart c2) c2.1.1 rfl ⟨Nat.le_refl _, Nat.le_refl _⟩ (fun r I1 N1 P1 => ?_)
    obtain ⟨rfl, f1, m1⟩ := P1
    have C1 := hC.ans (f1.wide (by omega) (by omega)) ⟨_, m1⟩
    have eq1 := f1 q (by omega)
    have e9 : zAnd (I1 q 7 + 1) 65535 = (own + 1) % 65536 := by rw [eq1.1, ho, zAndM _ 16 65535 (by omega) (by decide)]; omega
    refine V_run D [49] 49 rfl ⟨a1, a1, trivial⟩ ?_
    rw [e9]
    refine V_loc [some (.inr (.inr q)), some (.inr (.inr m))] rfl ?_
    refine tail _ N1 (fun a ha => ⟨by rw [xup_ne (by omega)]; exact (f1 a (by omega)).1, (f1 a (by omega)).2⟩) (fun j hj => ?_) ?_ (C1.2.own (by decide) _)
    · rw [xup_at]; unfold va_up; rw [if_neg hj, eq1.1]
    · rw [xup_at]; rfl
  · rw [if_pos q1, if_pos q1, if_pos q1] at tail
    refine V_run D [] 17 rfl ⟨hmT, a1, trivial⟩ ?_
    rw [a4, hg.2.1.2.2]
    refine V_chV (av := [.inl 2, .inl 0, .inl g.2.2.1]) (st := []) D mwX1_restart rfl lkX7_X1_restart (s_restart c2) c2.1.1 rfl ⟨Nat.le_refl _, Nat.le_refl _⟩ (fun r I1 N1 P1 => ?_)
    obtain ⟨rfl, f1, m1⟩ := P1
    have C1 := hC.ans (f1.wide (by omega) (by omega)) ⟨_, m1⟩
    have eq1 := f1 q (by omega)
    refine V_run D [49] 49 rfl trivial ?_
    refine V_loc [some (.inr (.inr q)), some (.inr (.inr m))] rfl ?_
    exact tail _ N1 (f1.wide (by omega) (by omega)) (fun j hj => by rw [eq1.1]) (by rw [eq1.1]; exact ho) C1.2
theorem s_sendReset {i : Int} (hC : SvC T I N q rs tags a v n) (hi : 0 ≤ i ∧ i ≤ 65535) (hB : BAt T I N b room xs) (hb : b + 2 ≤ q + 84 ∨ q + 96 ≤ b) (hfit : xs.length + 4 ≤ room) :
    Spec mX7_sendReset 5 [.inr (.inr q), .inl i, .inr (.inr b)] z T I N 0 0 (xCg z T fun r I' N' => r = some (.inl 0) ∧ (∀ a, (a < q + 84 ∨ q + 96 ≤ a) → a ≠ b → a ≠ b + 1 → I' a = I a) ∧ (∀ a, (a < q + 84 ∨ q + 96 ≤ a) → N' a = N a) ∧ (∃ lat, MAt T I' N' (q + 84) 2 (3, 0, i, [], [], []) lat) ∧ BAt T I' N' b room (xs ++ wr (3, 0, i, [], [], []))) := by
  obtain ⟨⟨a1, a2, a3, a4, a5, a6, a7⟩, b1, c1, ⟨lat0, c2⟩, c3⟩ := _root_.id hC
  refine Spec_of okX7_sendReset (by decide) (by decide) (Nat.le_of_ble_eq_true rfl) fun Γ E D => ?_
  refine V_run D [] 7 rfl ⟨a1, trivial⟩ ?_
  rw [a4]
  refine V_chV (av := [.inl 3, .inl 0, .inl i]) (st := []) D mwX1_restart rfl lkX7_X1_restart (s_restart c2) c2.1.1 rfl ⟨Nat.le_refl _, Nat.le_refl _⟩ (fun r I1 N1 P1 => ?_)
  obtain ⟨rfl, f1, m1⟩ := P1
  have hB1 : BAt T I1 N1 b room xs := hB.kept (f1 _ (by omega)).1 (f1 _ (by omega)).1 (f1 _ (by omega)).2
  have hN1 : N1 q 2 = q + 84 := by rw [(f1 q (by omega)).2]; exact a4
  refine V_run D [] 15 rfl ⟨a1, trivial⟩ ?_
  rw [hN1]
  have hok : MOk (3, 0, i, [], [], []) := ⟨by dsimp only; omega, by dsimp only; omega, hi, ⟨BsOk.nil, by simp⟩, trivial, BsOk.nil, by simp⟩
  have hwl : (wr (3, 0, i, [], [], [])).length = 4 := by rw [wr_len]; rfl
  refine V_putB (av := [.inr (.inr b)]) (st := []) D mwX1_writeBehind rfl lkX7_X1_writeBehind (s_behind m1 hok hB1 (by omega) (by rw [hwl]; exact hfit)) c2.1.1 rfl ⟨Nat.le_refl _, Nat.le_refl _⟩ (fun I2 e2 d2 => ?_)
  refine V_run D [] 19 rfl trivial ?_
  refine V_iret D rfl rfl ⟨rfl, rfl, rfl, fun a h1 h2 h3 => ?_, fun a h1 => (f1 a (by omega)).2, ⟨none, m1.kept (fun a h1 h2 => ⟨e2 a (by omega) (by omega), rfl⟩)⟩, d2⟩
  rw [e2 a h2 h3]; exact (f1 a (by omega)).1
end XSv7
