/-! how a message is WRITTEN -/
def mb (x : Int) : Nat := if x < 13 then 0 else if x < 269 then 1 else 2
def sf (x : Int) : Int := if x < 13 then x else 12 + mb x
def wm (x : Int) : List Int := hib (x - (if mb x = 1 then 13 else 269)) (mb x)
def wo (before : Int) (q : Opt) : List Int := (16 * sf (q.1 - before) + sf q.2.length) :: (wm (q.1 - before) ++ (wm q.2.length ++ q.2))
def wos (before : Int) : List Opt → List Int
  | [] => []
  | q :: r => wo before q ++ wos q.1 r
def wr (g : Msg) : List Int := (64 + 16 * g.1 + g.2.2.2.1.length) :: g.2.1 :: (hib g.2.2.1 2 ++ (g.2.2.2.1 ++ (wos 0 g.2.2.2.2.1 ++ (if g.2.2.2.2.2 = [] then [] else 255 :: g.2.2.2.2.2))))
def BsOk (xs : List Int) : Prop := ∀ v ∈ xs, 0 ≤ v ∧ v < 256
/-- numbers in order, from before on; values of bytes -/
def OsOk (before : Int) : List Opt → Prop
  | [] => True
  | q :: r => before ≤ q.1 ∧ q.1 ≤ 65535 ∧ BsOk q.2 ∧ q.2.length ≤ 400 ∧ OsOk q.1 r
def MOk (g : Msg) : Prop := (0 ≤ g.1 ∧ g.1 ≤ 3) ∧ (0 ≤ g.2.1 ∧ g.2.1 ≤ 255) ∧ (0 ≤ g.2.2.1 ∧ g.2.2.1 ≤ 65535) ∧ (BsOk g.2.2.2.1 ∧ g.2.2.2.1.length ≤ 8) ∧ OsOk 0 g.2.2.2.2.1 ∧ BsOk g.2.2.2.2.2 ∧ g.2.2.2.2.2.length ≤ 400
theorem mb_le (x : Int) : mb x ≤ 2 := by unfold mb; split; omega; split <;> omega
theorem hib_len (x : Int) (n : Nat) : (hib x n).length = n := by unfold hib; simp
theorem wm_len (x : Int) : (wm x).length = mb x := hib_len _ _
theorem sf_rng {x : Int} (h : 0 ≤ x) : 0 ≤ sf x ∧ sf x ≤ 14 := by
  unfold sf mb
  split
  · omega
  · split <;> omega
theorem OsOk.mem : ∀ {os : List Opt} {b : Int}, OsOk b os → 0 ≤ b → ∀ q ∈ os, 0 ≤ q.1 ∧ q.1 ≤ 65535 ∧ BsOk q.2 ∧ q.2.length ≤ 400
  | [], _, _, _, _, h => nomatch h
  | q :: r, b, h, hb, q', hq => by
    obtain ⟨h1, h2, h3, h4, h5⟩ := h
    rcases List.mem_cons.mp hq with rfl | hq
    · exact ⟨by omega, h2, h3, h4⟩
    · exact h5.mem (by omega) q' hq
theorem OsOk.xin {os : List Opt} {b : Int} (h : OsOk b os) (hb : 0 ≤ b) : ∀ q ∈ os, xIn q.1 := fun q hq => by have := h.mem hb q hq; constructor <;> omega
/-- two rows of bytes lie apart, if they aren't one -/
theorem BAt.other {T : xY} {I I' I0 : xI} {N N0 : xN} {b room b' room' : Nat} {xs ys : List Int} (hB' : BAt T I N b' room' ys) (hB : BAt T I0 N0 b room xs) (hne : b ≠ b') (hfr : ∀ a, a ≠ b → a ≠ b + 1 → I' a = I a) : BAt T I' N b' room' ys := by
  have h1 : b' ≠ b + 1 := fun e => by have := hB.2.1; rw [← e, hB'.1] at this; cases this
  have h2 : b' + 1 ≠ b := fun e => by have := hB.1; rw [← e, hB'.2.1] at this; cases this
  exact hB'.kept (hfr _ (by omega) h1) (hfr _ h2 (by omega)) rfl
section XW
variable {Γ : xG} {E : xE} {z : Nat} {T : xY} {I : xI} {N : xN} {m most lev b room o : Nat} {xs v : List Int} {g : Msg} {lat : Option Nat}
theorem s_moreBytes {x : Int} (hx : xIn x) : Spec mX1_moreBytes 0 [.inl x] z T I N 0 0 (xSame z T I N (some (.inl (mb x : Int)))) := by
  refine Spec_of okX1_moreBytes (by decide) (by decide) (Nat.le_of_ble_eq_true rfl) fun Γ E D => ?_
  refine V_run D [] 3 rfl trivial ?_
  refine V_ige D 8 rfl rfl hx (by omega) (fun c1 => ?_) (fun c1 => ?_)
  · refine V_run D [] 12 rfl trivial ?_
    refine V_ige D 19 rfl rfl hx (by omega) (fun c2 => ?_) (fun c2 => ?_)
    · refine V_run D [] 20 rfl trivial ?_
      exact V_iret D rfl rfl ⟨by unfold mb; rw [if_neg (by omega), if_neg (by omega)]; rfl, rfl, rfl, rfl, rfl⟩
    · refine V_run D [] 20 rfl trivial ?_
      exact V_iret D rfl rfl ⟨by unfold mb; rw [if_neg (by omega), if_pos (by omega)]; rfl, rfl, rfl, rfl, rfl⟩
  · refine V_run D [] 7 rfl trivial ?_
    exact V_iret D rfl rfl ⟨by unfold mb; rw [if_pos (by omega)]; rfl, rfl, rfl, rfl, rfl⟩
theorem s_shortForm {x : Int} (hx : xIn x) : Spec mX1_shortForm 1 [.inl x] z T I N 0 0 (xSame z T I N (some (.inl (sf x)))) := by
  refine Spec_of okX1_shortForm (by decide) (by decide) (Nat.le_of_ble_eq_true rfl) fun Γ E D => ?_
  refine V_run D [] 3 rfl trivial ?_
  refine V_ige D 10 rfl rfl hx (by omega) (fun c1 => ?_) (fun c1 => ?_)
  · refine V_run D [] 13 rfl trivial ?_
    refine V_askS (av := [.inl x]) (st := [.inl 12]) D mwX1_moreBytes rfl lkX1_X1_moreBytes (s_moreBytes hx) rfl ⟨Nat.le_refl _, Nat.le_refl _⟩ ?_
    refine V_run D [] 17 rfl trivial ?_
    exact V_iret D rfl rfl ⟨by unfold sf; rw [if_neg (by omega)], rfl, rfl, rfl, rfl⟩
  · refine V_run D [] 17 rfl trivial ?_
    exact V_iret D rfl rfl ⟨by unfold sf; rw [if_pos (by omega)], rfl, rfl, rfl, rfl⟩
theorem s_writeMore {x : Int} (hB : BAt T I N b room xs) (hx : xIn x ∧ 0 ≤ x) (hfit : xs.length + mb x ≤ room) : Spec mX1_writeMore 1 [.inl x, .inr (.inr b)] z T I N 0 0 (BCh z T I N b room (xs ++ wm x)) := by
  refine Spec_of okX1_writeMore (by decide) (by decide) (Nat.le_of_ble_eq_true rfl) fun Γ E D => ?_
  refine V_run D [] 1 rfl trivial ?_
  refine V_askS (av := [.inl x]) (st := []) D mwX1_moreBytes rfl lkX1_X1_moreBytes (s_moreBytes hx.1) rfl ⟨Nat.le_refl _, Nat.le_refl _⟩ ?_
  have hm := mb_le x
  refine V_run D [] 9 rfl trivial ?_
  refine V_ine D 17 rfl rfl (by omega) (by omega) (fun c1 => ?_) (fun c1 => ?_)
  · refine V_run D [] 22 rfl trivial ?_
    refine V_putB (av := [.inl (x - 269), .inl (mb x : Int)]) (st := []) D mwX0_addHighFirst rfl lkX1_X0_addHighFirst (s_addHigh hB (by omega) hfit) hB.1 rfl ⟨Nat.le_refl _, Nat.le_refl _⟩ (fun I2 e2 d1 => ?_)
    exact V_vret D rfl rfl ⟨rfl, rfl, rfl, rfl, e2, by unfold wm; rw [if_neg (by omega)]; exact d1⟩
  · refine V_run D [] 22 rfl trivial ?_
    refine V_putB (av := [.inl (x - 13), .inl (mb x : Int)]) (st := []) D mwX0_addHighFirst rfl lkX1_X0_addHighFirst (s_addHigh hB (by omega) hfit) hB.1 rfl ⟨Nat.le_refl _, Nat.le_refl _⟩ (fun I2 e2 d1 => ?_)
    exact V_vret D rfl rfl ⟨rfl, rfl, rfl, rfl, e2, by unfold wm; rw [if_pos (by omega)]; exact d1⟩
/-- a static call that changes one row of bytes -/
theorem V_putBS {M M' : xM} {Q : State → Prop} {ce sl pc lev' mc ms n idx : Nat} {lv : xL} {st av : List xV} (D : xD Γ E M lev mc ms) (hm : xMs M' n) (hf : xfe M pc = some (.invokestatic idx, 3)) (hlk : Cond.methodLink (xRn M.2.2.2.2.1) idx M'.1 ∈ lw_tbl) {ys : List Int} (hS : Spec M' lev' av z T I N 0 0 (BCh z T I N b room ys))
    (hr : (Nat.blt lev' lev && av.length.beq n && (xwd st).ble 8) = true) (hc : ce ≤ mc ∧ sl ≤ ms) (k : ∀ I', (∀ a, a ≠ b → a ≠ b + 1 → I' a = I a) → BAt T I' N b room ys → V Γ E Q z T I' N ce sl (pc + 3) lv st) : V Γ E Q z T I N ce sl pc lv (av.reverse ++ st) :=
  V_callS D hm hf hlk hS hr hc (fun r z' T' I' N' h => by obtain ⟨h1, h2, h3, h4, h5, h6⟩ := h; rw [h1, h2, h3, h4]; exact k I' h5 h6)
theorem s_writeOption {before n : Int} (hO : OAt T I N o n v) (hB : BAt T I N b room xs) (hne : b ≠ o + 1) (hd : 0 ≤ n - before ∧ n - before ≤ 65535) (hfit : xs.length + (wo before (n, v)).length ≤ room) :
    Spec mX1_writeOption 3 [.inr (.inr o), .inl before, .inr (.inr b)] z T I N 0 0 (BCh z T I N b room (xs ++ wo before (n, v))) := by
  obtain ⟨o1, o2, o3, o4⟩ := hO
  have v1 := o4.2.2.2.2.1
  have hlen : (wo before (n, v)).length = 1 + mb (n - before) + mb v.length + v.length := by unfold wo; simp [wm_len]; omega
  rw [hlen] at hfit
  refine Spec_of okX1_writeOption (by decide) (by decide) (Nat.le_of_ble_eq_true rfl) fun Γ E D => ?_
  refine V_run D [] 20 rfl ⟨by rw [o2]; exact o4.1, o1, o1, trivial⟩ ?_
  rw [o2, o3, o4.2.2.2.1]
  refine V_askS (av := [.inl (n - before)]) (st := [.inl 16, .inr (.inr b)]) D mwX1_shortForm rfl lkX1_X1_shortForm (s_shortForm (by omega)) rfl ⟨Nat.le_refl _, Nat.le_refl _⟩ ?_
  refine V_run D [] 26 rfl trivial ?_
  refine V_askS (av := [.inl (v.length : Int)]) (st := [.inl (16 * sf (n - before)), .inr (.inr b)]) D mwX1_shortForm rfl lkX1_X1_shortForm (s_shortForm (by omega)) rfl ⟨Nat.le_refl _, Nat.le_refl _⟩ ?_
  have s1 := sf_rng hd.1
  have s2 := sf_rng (x := (v.length : Int)) (by omega)
  refine V_run D [] 30 rfl trivial ?_
  refine V_putB (av := [.inl (16 * sf (n - before) + sf (v.length : Int))]) (st := []) D mwX0_add rfl lkX1_X0_add (s_add hB) hB.1 rfl ⟨Nat.le_refl _, Nat.le_refl _⟩ (fun I2 e2 d1 => ?_)
  rw [if_pos (by omega), Int.emod_eq_of_lt (by omega) (by omega)] at d1
  refine V_run D [] 35 rfl trivial ?_
  refine V_putBS (av := [.inl (n - before), .inr (.inr b)]) (st := []) D mwX1_writeMore rfl lkX1_X1_writeMore (s_writeMore d1 (by omega) (by simp; omega)) rfl ⟨Nat.le_refl _, Nat.le_refl _⟩ (fun I3 e3 d2 => ?_)
  refine V_run D [] 41 rfl trivial ?_
  refine V_putBS (av := [.inl (v.length : Int), .inr (.inr b)]) (st := []) D mwX1_writeMore rfl lkX1_X1_writeMore (s_writeMore d2 (by omega) (by simp [wm_len]; omega)) rfl ⟨Nat.le_refl _, Nat.le_refl _⟩ (fun I4 e4 d3 => ?_)
  refine V_run D [] 49 rfl ⟨o1, trivial⟩ ?_
  rw [o2]
  have fr : ∀ a, a ≠ b → a ≠ b + 1 → I4 a = I a := fun a h1 h2 => by rw [e4 a h1 h2, e3 a h1 h2, e2 a h1 h2]
  refine V_putB (av := [.inr (.inr (o + 1))]) (st := []) D mwX0_addAll rfl lkX1_X0_addAll (s_addAll d3 (o4.other hB hne fr) hne) hB.1 rfl ⟨Nat.le_refl _, Nat.le_refl _⟩ (fun I5 e5 d4 => ?_)
  rw [if_pos (by simp [wm_len]; omega)] at d4
  refine V_vret D rfl rfl ⟨rfl, rfl, rfl, rfl, fun a h1 h2 => by rw [e5 a h1 h2, fr a h1 h2], ?_⟩
  unfold wo
  simpa using d4
end XW
