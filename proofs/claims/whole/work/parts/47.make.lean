/-! constructors: all is made at the end, nothing below changes -/
def Ag (hi : Nat) (T : xY) (I : xI) (N : xN) (T' : xY) (I' : xI) (N' : xN) : Prop := ∀ q, q < hi → T' q = T q ∧ I' q = I q ∧ N' q = N q
def InP (T : xY) (I : xI) (N : xN) (a size : Nat) (P : xY → xI → xN → Prop) : xPo := fun r z' T' I' N' => r = none ∧ z' = a + size ∧ Ag a T I N T' I' N' ∧ P T' I' N'
theorem Ag.rf {hi : Nat} {T : xY} {I : xI} {N : xN} : Ag hi T I N T I N := fun _ _ => ⟨rfl, rfl, rfl⟩
theorem Ag.trans {hi : Nat} {T T' T'' : xY} {I I' I'' : xI} {N N' N'' : xN} (h : Ag hi T I N T' I' N') (h' : Ag hi T' I' N' T'' I'' N'') : Ag hi T I N T'' I'' N'' := fun q hq => ⟨(h' q hq).1.trans (h q hq).1, (h' q hq).2.1.trans (h q hq).2.1, (h' q hq).2.2.trans (h q hq).2.2⟩
theorem Ag.lo {hi lo : Nat} {T T' : xY} {I I' : xI} {N N' : xN} (h : Ag hi T I N T' I' N') (hl : lo ≤ hi) : Ag lo T I N T' I' N' := fun q hq => h q (by omega)
theorem Ag.new {hi z : Nat} {T T' : xY} {I I' : xI} {N N' : xN} (h : Ag hi T I N T' I' N') (hz : hi ≤ z) {t : Option xT} {i : Nat → Int} {n : Nat → Nat} : Ag hi T I N (va_up T' z t) (va_up I' z i) (va_up N' z n) := fun q hq => by
  have hne : ¬ q = z := by omega
  unfold va_up
  rw [if_neg hne, if_neg hne, if_neg hne]
  exact h q hq
theorem Ag.putN {hi a f w : Nat} {T T' : xY} {I I' : xI} {N N' : xN} (h : Ag hi T I N T' I' N') (ha : hi ≤ a) : Ag hi T I N T' I' (xup N' a f w) := fun q hq => by rw [xup_ne (by omega)]; exact h q hq
theorem Ag.putI {hi a f : Nat} {w : Int} {T T' : xY} {I I' : xI} {N N' : xN} (h : Ag hi T I N T' I' N') (ha : hi ≤ a) : Ag hi T I N T' (xup I' a f w) N' := fun q hq => by rw [xup_ne (by omega)]; exact h q hq
theorem up_at {α : Type} {f : Nat → α} {z : Nat} {v : α} : va_up f z v z = v := by unfold va_up; rw [if_pos rfl]
theorem up_ne {α : Type} {f : Nat → α} {z q : Nat} {v : α} (h : q ≠ z) : va_up f z v q = f q := by unfold va_up; rw [if_neg h]
theorem xup_f {α : Type} {f : Nat → Nat → α} {a k : Nat} {v : α} : xup f a k v a k = v := by rw [xup_at]; exact up_at
theorem xup_j {α : Type} {f : Nat → Nat → α} {a k j : Nat} {v : α} (h : j ≠ k) : xup f a k v a j = f a j := by rw [xup_at]; exact up_ne h
section XMk
variable {Γ : xG} {E : xE} {M M' : xM} {T T' : xY} {I I' : xI} {N N' : xN} {z : Nat} {ce sl pc lev lev' mc ms mc' ms' n idx b o m q room most old : Nat} {Q : State → Prop} {lv : xL} {st : List xV} {post post' : xPo} {av : List xV} {xs v : List Int} {k : Int} {ring : List Opt} {tags : Int} {rs : List Res}
theorem BAt.mv (h : BAt T I N b room xs) (hk : ∀ q, b ≤ q → q < b + 2 → T' q = T q ∧ I' q = I q ∧ N' q = N q) : BAt T' I' N' b room xs := by
  obtain ⟨a1, a2, a3, a4, a5, a6, a7, a8⟩ := h
  have k0 := hk b (by omega) (by omega)
  have k1 := hk (b + 1) (by omega) (by omega)
  exact ⟨by rw [k0.1]; exact a1, by rw [k1.1]; exact a2, by rw [k0.2.2]; exact a3, by rw [k0.2.1]; exact a4, a5, a6, a7, fun j hj => by rw [k1.2.1]; exact a8 j hj⟩
theorem OAt.mv (h : OAt T I N o k v) (hk : ∀ q, o ≤ q → q < o + 3 → T' q = T q ∧ I' q = I q ∧ N' q = N q) : OAt T' I' N' o k v := by
  obtain ⟨h1, h2, h3, h4⟩ := h
  have k0 := hk o (by omega) (by omega)
  exact ⟨by rw [k0.1]; exact h1, by rw [k0.2.2]; exact h2, by rw [k0.2.1]; exact h3, h4.mv (fun q h1 h2 => hk q (by omega) (by omega))⟩
theorem SnAt.mv (h : SnAt T I N o k v) (hk : ∀ q, o ≤ q → q < o + 3 → T' q = T q ∧ I' q = I q ∧ N' q = N q) : SnAt T' I' N' o k v := by
  obtain ⟨h1, h2, h3, h4⟩ := h
  have k0 := hk o (by omega) (by omega)
  exact ⟨by rw [k0.1]; exact h1, by rw [k0.2.2]; exact h2, by rw [k0.2.1]; exact h3, h4.mv (fun q h1 h2 => hk q (by omega) (by omega))⟩
theorem RsAny.mv (h : RsAny T I N o) (hk : ∀ q, o ≤ q → q < o + 5 → T' q = T q ∧ I' q = I q ∧ N' q = N q) : RsAny T' I' N' o := by
  obtain ⟨h1, h2, h3, ⟨v, h6⟩, w, h7⟩ := h
  have k0 := hk o (by omega) (by omega)
  exact ⟨by rw [k0.1]; exact h1, by rw [k0.2.2]; exact h2, by rw [k0.2.2]; exact h3, ⟨v, h6.mv (fun q h1 h2 => hk q (by omega) (by omega))⟩, w, h7.mv (fun q h1 h2 => hk q (by omega) (by omega))⟩
theorem PAt.mv (h : PAt T I N q ring old) (hk : ∀ a, q ≤ a → a < q + 26 → T' a = T a ∧ I' a = I a ∧ N' a = N a) : PAt T' I' N' q ring old := by
  obtain ⟨a1, a2, a3, a4, a5, a6, a7, a8⟩ := h
  have k0 := hk q (by omega) (by omega)
  have k1 := hk (q + 1) (by omega) (by omega)
  exact ⟨by rw [k0.1]; exact a1, by rw [k0.2.2]; exact a2, by rw [k1.1]; exact a3, by rw [k0.2.1]; exact a4, a5, a6, fun k h => by rw [k1.2.2]; exact a7 k h, fun k h => (a8 k h).mv (fun a h1 h2 => hk a (by omega) (by omega))⟩
/-- a message without anything -/
theorem MAt.mv0 (h : MAt T I N m most (0, 0, 0, [], [], []) none) (hk : ∀ a, m ≤ a → a < m + 6 + 3 * most → T' a = T a ∧ I' a = I a ∧ N' a = N a) : MAt T' I' N' m most (0, 0, 0, [], [], []) none := by
  obtain ⟨⟨a1, a2, a3, a4, a5, a6, a7, a8⟩, ⟨b1, b2, b3⟩, c1, c2, ⟨f, f1, f2, f3, f4⟩, l1⟩ := h
  have k0 := hk m (by omega) (by omega)
  have k5 := hk (m + 5) (by omega) (by omega)
  refine ⟨⟨by rw [k0.1]; exact a1, by rw [k0.2.2]; exact a2, by rw [k0.2.2]; exact a3, by rw [k0.2.2]; exact a4, by rw [k5.1]; exact a5, a6, by rw [k0.2.1]; exact a7, a8⟩, ⟨by rw [k0.2.1]; exact b1, by rw [k0.2.1]; exact b2, by rw [k0.2.1]; exact b3⟩, c1.mv (fun q h1 h2 => hk q (by omega) (by omega)), c2.mv (fun q h1 h2 => hk q (by omega) (by omega)), ⟨f, fun j hj => by rw [k5.2.2]; exact f1 j hj, f2, fun k hk1 => ?_, fun j hj => ?_⟩, ?_⟩
  · obtain ⟨n, v, h⟩ := f3 k hk1
    exact ⟨n, v, h.mv (fun a h1 h2 => hk a (by omega) (by omega))⟩
  · simp at hj
  · show N' m 4 = 0; rw [k0.2.2]; exact l1
theorem StAt.mv0 (h : StAt T I N q [] 0) (hk : ∀ a, q ≤ a → a < q + 82 → T' a = T a ∧ I' a = I a ∧ N' a = N a) : StAt T' I' N' q [] 0 := by
  obtain ⟨⟨a1, a2, a3, a4, a5, a6⟩, f, f1, f2, f3, f4⟩ := h
  have k0 := hk q (by omega) (by omega)
  have k1 := hk (q + 1) (by omega) (by omega)
  refine ⟨⟨by rw [k0.1]; exact a1, by rw [k0.2.2]; exact a2, by rw [k1.1]; exact a3, by rw [k0.2.1]; exact a4, a5, by rw [k0.2.1]; exact a6⟩, f, fun j hj => by rw [k1.2.2]; exact f1 j hj, f2, fun k h => (f3 k h).mv (fun a h1 h2 => hk a (by omega) (by omega)), fun j hj => by simp at hj⟩
theorem V_newO (D : xD Γ E M lev mc ms) (c nf : Nat) (hnf : xNN c = nf) (hf : xfe M pc = some (.new idx, 3)) (hlk : Cond.classLink (xRn M.2.2.2.2.1) idx (xRn c) ∈ lw_tbl) (hc : c < 11) (hm : ce + 1 ≤ mc ∧ sl + nf ≤ ms)
    (k : V Γ E Q (z + 1) (va_up T z (some (.inr c))) (va_up I z (fun _ => 0)) (va_up N z (fun _ => 0)) (ce + 1) (sl + nf) (pc + 3) lv (.inr (.inr z) :: st)) : V Γ E Q z T I N ce sl pc lv st := by
  subst hnf
  exact V_new D c hf hlk hc hm k
theorem s_BytesN (hr : room ≤ 5000) (hb : 0 < b) (hT : T b = some (.inr 0)) (hI : I b = fun _ => 0) : Spec mX0_init 1 [.inr (.inr b), .inl (room : Int)] (b + 1) T I N 1 room (InP T I N b 2 (fun T' I' N' => BAt T' I' N' b room [])) := by
  refine (s_Bytes_init (z := b + 1) hr rfl hb hT (by rw [hI])).mono ?_
  intro r z' T' I' N' ⟨h1, h2, h3, h4, h5⟩
  subst h3 h4 h5
  refine ⟨h1, h2, (Ag.rf.new (by omega)).putN (Nat.le_refl _), ?_, up_at, xup_f, ?_, by simp, hr, (fun _ h => nomatch h), (fun _ h => nomatch h)⟩
  · rw [up_ne (by omega)]; exact hT
  · rw [up_ne (by omega), hI]; rfl
theorem s_Option_init (ho : 0 < o) (hT : T o = some (.inr 2)) (hI : I o = fun _ => 0) : Spec mX2_init 2 [.inr (.inr o)] (o + 1) T I N 2 402 (InP T I N o 3 (fun T' I' N' => OAt T' I' N' o 0 [])) := by
  refine Spec_of okX2_init (by decide) (by decide) (Nat.le_of_ble_eq_true rfl) fun Γ E D => ?_
  refine V_run D [] 1 rfl trivial ?_
  refine V_obj D rfl lkX2_obj ho rfl ?_
  refine V_run D [] 5 rfl trivial ?_
  refine V_newO D 0 2 rfl rfl ckX2_X0 (by decide) (by omega) ?_
  refine V_run D [] 12 rfl trivial ?_
  refine V_callI (av := [.inl ((400 : Nat) : Int)]) (st := [.inr (.inr (o + 1)), .inr (.inr o)]) D mwX0_init rfl lkX2_X0_init (by omega) (s_BytesN (by omega) (by omega) up_at up_at) rfl (by omega) (fun r z' T1 I1 N1 P => ?_)
  obtain ⟨rfl, rfl, g1, B1⟩ := P
  have h0 := g1 o (by omega)
  rw [up_ne (by omega), up_ne (by omega), up_ne (by omega)] at h0
  refine V_putF (c := 2) (f := 0) D rfl rfl rfl rfl rfl rfl (by rw [h0.1]; exact hT) ?_
  refine V_vret D rfl rfl ⟨rfl, rfl, ((Ag.rf.new (by omega)).trans (g1.lo (by omega))).putN (Nat.le_refl _), by rw [h0.1]; exact hT, xup_f, by rw [h0.2.1, hI], B1.kept rfl rfl (xup_ne (by omega))⟩
theorem s_Sent_init (ho : 0 < o) (hT : T o = some (.inr 6)) : Spec mX6_init 2 [.inr (.inr o)] (o + 1) T I N 2 423 (InP T I N o 3 (fun T' I' N' => SnAt T' I' N' o (-1) [])) := by
  refine Spec_of okX6_init (by decide) (by decide) (Nat.le_of_ble_eq_true rfl) fun Γ E D => ?_
  refine V_run D [] 1 rfl trivial ?_
  refine V_obj D rfl lkX6_obj ho rfl ?_
  refine V_run D [] 5 rfl trivial ?_
  refine V_newO D 0 2 rfl rfl ckX6_X0 (by decide) (by omega) ?_
  refine V_run D [] 12 rfl trivial ?_
  refine V_callI (av := [.inl ((421 : Nat) : Int)]) (st := [.inr (.inr (o + 1)), .inr (.inr o)]) D mwX0_init rfl lkX6_X0_init (by omega) (s_BytesN (by omega) (by omega) up_at up_at) rfl (by omega) (fun r z' T1 I1 N1 P => ?_)
  obtain ⟨rfl, rfl, g1, B1⟩ := P
  have h0 := g1 o (by omega)
  rw [up_ne (by omega), up_ne (by omega), up_ne (by omega)] at h0
  have hT1 : T1 o = some (.inr 6) := by rw [h0.1]; exact hT
  refine V_putF (c := 6) (f := 0) D rfl rfl rfl rfl rfl rfl hT1 ?_
  refine V_run D [] 23 rfl ⟨hT1, trivial⟩ ?_
  refine V_vret D rfl rfl ⟨rfl, rfl, (((Ag.rf.new (by omega)).trans (g1.lo (by omega))).putN (Nat.le_refl _)).putI (Nat.le_refl _), hT1, xup_f, xup_f, B1.kept (xup_ne (by omega)) (xup_ne (by omega)) (xup_ne (by omega))⟩
theorem s_Resource_init (ho : 0 < o) (hT : T o = some (.inr 5)) : Spec mX5_init 2 [.inr (.inr o)] (o + 1) T I N 4 2444 (InP T I N o 5 (fun T' I' N' => RsAny T' I' N' o)) := by
  refine Spec_of okX5_init (by decide) (by decide) (Nat.le_of_ble_eq_true rfl) fun Γ E D => ?_
  refine V_run D [] 1 rfl trivial ?_
  refine V_obj D rfl lkX5_obj ho rfl ?_
  refine V_run D [] 5 rfl trivial ?_
  refine V_newO D 0 2 rfl rfl ckX5_X0 (by decide) (by omega) ?_
  refine V_run D [] 12 rfl trivial ?_
  refine V_callI (av := [.inl ((2040 : Nat) : Int)]) (st := [.inr (.inr (o + 1)), .inr (.inr o)]) D mwX0_init rfl lkX5_X0_init (by omega) (s_BytesN (by omega) (by omega) up_at up_at) rfl (by omega) (fun r z' T1 I1 N1 P => ?_)
  obtain ⟨rfl, rfl, g1, B1⟩ := P
  have h0 := g1 o (by omega)
  rw [up_ne (by omega), up_ne (by omega), up_ne (by omega)] at h0
  have hT1 : T1 o = some (.inr 5) := by rw [h0.1]; exact hT
  refine V_putF (c := 5) (f := 0) D rfl rfl rfl rfl rfl rfl hT1 ?_
  refine V_run D [] 19 rfl trivial ?_
  refine V_newO D 0 2 rfl rfl ckX5_X0 (by decide) (by omega) ?_
  refine V_run D [] 26 rfl trivial ?_
  refine V_callI (av := [.inl ((400 : Nat) : Int)]) (st := [.inr (.inr (o + 1 + 2)), .inr (.inr o)]) D mwX0_init rfl lkX5_X0_init (by omega) (s_BytesN (by omega) (by omega) up_at up_at) rfl (by omega) (fun r z' T2 I2 N2 P => ?_)
  obtain ⟨rfl, rfl, g2, B2⟩ := P
  have h2 := g2 o (by omega)
  rw [up_ne (by omega), up_ne (by omega), up_ne (by omega)] at h2
  have hT2 : T2 o = some (.inr 5) := by rw [h2.1]; exact hT1
  refine V_putF (c := 5) (f := 1) D rfl rfl rfl rfl rfl rfl hT2 ?_
  have g0 : Ag o T I N T1 I1 (xup N1 o 0 (o + 1)) := ((Ag.rf.new (by omega)).trans (g1.lo (by omega))).putN (Nat.le_refl _)
  refine V_vret D rfl rfl ⟨rfl, rfl, ((g0.new (by omega)).trans (g2.lo (by omega))).putN (Nat.le_refl _), hT2, ?_, xup_f, ⟨[], B1.mv (fun q h1 h2 => ?_)⟩, [], B2.kept rfl rfl (xup_ne (by omega))⟩
  · rw [xup_j (by decide), h2.2.2, xup_f]
  · have h3 := g2 q (by omega)
    rw [up_ne (by omega), up_ne (by omega), up_ne (by omega), xup_ne (by omega)] at h3
    rw [xup_ne (by omega)]
    exact h3
theorem s_Reader_init (ho : 0 < o) : Spec mX4_init 1 [.inr (.inr o)] z T I N 0 0 (xSame z T I N none) := by
  refine Spec_of okX4_init (by decide) (by decide) (Nat.le_of_ble_eq_true rfl) fun Γ E D => ?_
  refine V_run D [] 1 rfl trivial ?_
  refine V_obj D rfl lkX4_obj ho rfl ?_
  exact V_vret D rfl rfl ⟨rfl, rfl, rfl, rfl, rfl⟩
end XMk
