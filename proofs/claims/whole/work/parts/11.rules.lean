/-! branches, answers, contracts and calls -/
/-- the room of a method: its level -/
def xRm (lev mc ms : Nat) : Room := { frames := lev, cells := mc, slots := ms, locals := 32 * lev }
def xD (Γ : xG) (E : xE) (M : xM) (lev mc ms : Nat) : Prop := xC Γ E M ∧ gR Γ = xRm lev mc ms
def xent : List xV → Nat → xL
  | [], _ => fun _ => none
  | .inl x :: r, k => fun j => if j = k then some (.inl x) else xent r (k + 1) j
  | .inr (.inl x) :: r, k => fun j => if j = k then some (.inr (.inl x)) else xent r (k + 2) j
  | .inr (.inr x) :: r, k => fun j => if j = k then some (.inr (.inr x)) else xent r (k + 1) j
theorem xent_in : ∀ (av : List xV) (k i : Nat) (v : xV), xent av k i = some v → (i, xv v) ∈ lv_args k (av.map xv)
  | [], _, _, _, h => by cases h
  | .inl x :: r, k, i, v, h => by
    unfold xent at h
    split at h
    · rename_i hi; cases h; rw [hi]; exact List.mem_cons_self ..
    · exact List.mem_cons_of_mem _ (xent_in r (k + 1) i v h)
  | .inr (.inl x) :: r, k, i, v, h => by
    unfold xent at h
    split at h
    · rename_i hi; cases h; rw [hi]; exact List.mem_cons_self ..
    · exact List.mem_cons_of_mem _ (xent_in r (k + 2) i v h)
  | .inr (.inr x) :: r, k, i, v, h => by
    unfold xent at h
    split at h
    · rename_i hi; cases h; rw [hi]; exact List.mem_cons_self ..
    · refine List.mem_cons_of_mem _ ?_
      have h2 := xent_in r (k + 1) i v h
      have h3 : (if (xv (.inr (.inr x))).category = 2 then k + 2 else k + 1) = k + 1 := by rw [if_neg]; show ¬ (xr x).category = 2; rw [xr_cat]; decide
      rw [h3]
      exact h2
def xwd : List xV → Nat
  | [] => 0
  | .inr (.inl _) :: r => xwd r + 2
  | _ :: r => xwd r + 1
theorem xwd_len : ∀ av : List xV, (lg_sl (av.map xv)).length = xwd av
  | [] => rfl
  | .inl x :: r => by
    have h := xwd_len r
    simp [lg_sl, xwd, xv, Value.category] at h ⊢
    omega
  | .inr (.inl x) :: r => by
    have h := xwd_len r
    simp [lg_sl, xwd, xv, Value.category] at h ⊢
    omega
  | .inr (.inr x) :: r => by
    have h := xwd_len r
    have hc := xr_cat x
    simp [lg_sl, xwd, xv, hc] at h ⊢
    omega
abbrev xPo : Type := Option xV → Nat → xY → xI → xN → Prop
def xPre (E : xE) (z : Nat) (T : xY) (I : xI) (N : xN) (U : State) : Prop := xR E z T I N U.heap ∧ xK E U ∧ xW U ∧ xX E U U.heap
def xPost (E : xE) (post : xPo) : Array Value → State → Outcome → State → Prop := fun _ st oc t => (∃ (r : Option xV) (z : Nat) (T : xY) (I : xI) (N : xN), oc = .returned (r.map xv) ∧ post r z T I N ∧ xR E z T I N t.heap) ∧ va_F (fun q => E.2.2 ≤ q) st t
def xws (M : xM) : List Cond := [.code M.1 M.2.1 M.2.2.1 M.2.2.2.1]
/-- THE CONTRACT of a method at a level: from arguments and world, at most mc cells of ms slots made, to an answer and a world -/
def Spec (M : xM) (lev : Nat) (av : List xV) (z : Nat) (T : xY) (I : xI) (N : xN) (mc ms : Nat) (post : xPo) : Prop :=
  ∀ (l : Launch) (E : xE), Met l M.1 (xws M) (xRm lev mc ms) (va_Pc (av.map xv) (xPre E z T I N)) (xPost E post) mc ms (fun q => E.2.2 ≤ q)
def xQ (Γ : xG) (E : xE) (post : xPo) (mc ms : Nat) : State → Prop := MQ (gb Γ) (xPost E post) (ga Γ) (gs Γ) mc ms (fun q => E.2.2 ≤ q)
theorem xX.moved {E : xE} {u U : State} {H H' : Heap} (hvm : u.vm.Alike U.vm) (hq : ∀ a : Nat, a < H.size → ¬ E.2.2 ≤ a → H'[a]? = H[a]?) (h : xX E u H) : xX E U H' := ⟨(vx_Zq.moved hvm h.1).kept hq, (vx_Zq.moved hvm h.2).kept hq⟩
theorem xPre.blind {E : xE} {z : Nat} {T : xY} {I : xI} {N : xN} {av : List Value} : FrameBlind (va_Pc av (xPre E z T I N)) := by
  intro a U g mk ⟨h0, h1, h2, h3, h4⟩
  exact ⟨h0, h1, xK.moved (u := U) (U := U.calling g mk a) (Vm.Alike.refl U.vm) h2, xW.warm (s := U) (U := U.calling g mk a) h3 (State.WarmedH.refl U), xX.moved (u := U) (U := U.calling g mk a) (Vm.Alike.refl U.vm) (fun _ _ _ => rfl) h4⟩
/-- a contract out of a walk -/
theorem Spec_of {M : xM} {lev : Nat} {av : List xV} {z : Nat} {T : xY} {I : xI} {N : xN} {mc ms : Nat} {post : xPo} (hok : ∀ e ∈ M.2.2.2.2.2, decode M.2.1 e.1 = .ok (e.2.1, e.2.2)) (hpl : plainName M.1.cls = true) (hcls : xRn M.2.2.2.2.1 = M.1.cls ∧ M.2.2.2.2.1 < 12) (hlen : xwd av ≤ M.2.2.1)
    (h : ∀ (Γ : xG) (E : xE), xD Γ E M lev mc ms → V Γ E (xQ Γ E post mc ms) z T I N 0 0 0 (xent av 0) []) : Spec M lev av z T I N mc ms post := by
  intro l E
  refine Met.ofW (cc := M.2.1) (maxL := M.2.2.1) (ret := M.2.2.2.1) hpl rfl ?_
  intro p e s m args below meth c s₁ B hml hv
  obtain ⟨rfl, hR, hK, hW, hX⟩ := hv
  have hown : s.vm.findClass M.1.cls = some m.cls := findClass_of_methodNamed B.named
  have C : xD (p, l, e, (headSpec (xws M) (xRm lev mc ms)).room, s, m, (av.map xv).toArray, below, meth, c) E M lev mc ms :=
    ⟨⟨⟨B.exec, B.bytes, B.returns, hml, by rw [hcls.1]; exact hown, B.notSynchronized, (name_of_methodNamed B.named B.method).1⟩, hok, hcls.2, hK, hW, hX, by rw [hR.1]; exact hR.2.1⟩, rfl⟩
  have hl := lv_entry (av.map xv) (n := M.2.2.1) (by rw [xwd_len]; exact hlen)
  rw [lg_entry_eq]
  exact h _ E C s.heap [] _ hR va_S.rf ⟨hl.1.trans hml.symm, hl.2.1, fun i v hi => hl.2.2 _ (xent_in av 0 i v hi)⟩
theorem Spec.mono {M : xM} {lev : Nat} {av : List xV} {z : Nat} {T : xY} {I : xI} {N : xN} {mc ms : Nat} {post post' : xPo} (h : Spec M lev av z T I N mc ms post) (hp : ∀ r z T I N, post r z T I N → post' r z T I N) : Spec M lev av z T I N mc ms post' := by
  intro l E p e ha hc hk s m args below hf happ hpre hK
  obtain ⟨k, o, h1, h2, h3, ⟨⟨r, z', T', I', N', e1, e2, e3⟩, hF⟩, hL⟩ := h l E p e ha hc hk s m args below hf happ hpre hK
  exact ⟨k, o, h1, h2, h3, ⟨⟨r, z', T', I', N', e1, hp _ _ _ _ _ e2, e3⟩, hF⟩, hL⟩
section XRules
variable {Γ : xG} {E : xE} {M : xM} {T : xY} {I : xI} {N : xN} {z : Nat} {ce sl pc lev mc ms : Nat} {Q : State → Prop} {lv : xL} {st : List xV} {post : xPo}
theorem V_run (D : xD Γ E M lev mc ms) (stop : List Nat) (pc' : Nat) {P : Prop} {lv' : xL} {st' : List xV} {I' : xI} {N' : xN} (h : xgo M T stop 90 True pc lv st I N = some (P, pc', lv', st', I', N')) (hP : P) (k : V Γ E Q z T I' N' ce sl pc' lv' st') : V Γ E Q z T I N ce sl pc lv st := V_go D.1 stop pc' h hP k
theorem V_wide {k n : Nat} (h1 : ce ≤ k) (h2 : sl ≤ n) (h : V Γ E Q z T I N k n pc lv st) : V Γ E Q z T I N ce sl pc lv st := fun H locs ls hR hS hl => W.widen h1 h2 (h H locs ls hR hS hl)
theorem V_lv {lv' : xL} (hl : ∀ i v, lv' i = some v → lv i = some v) (h : V Γ E Q z T I N ce sl pc lv' st) : V Γ E Q z T I N ce sl pc lv st := fun H locs ls hR hS hls => h H locs ls hR hS ⟨hls.1, hls.2.1, fun i v hi => hls.2.2 i v (hl i v hi)⟩

theorem V_eq (D : xD Γ E M lev mc ms) (tgt : Nat) {off : Int} {x : Int} (h : xfe M pc = some (.ifCond .eq off, 3)) (ht : (pc : Int) + off = (tgt : Int)) (hx : xIn x) (kt : x = 0 → V Γ E Q z T I N ce sl tgt lv st) (kf : ¬ (x = 0) → V Γ E Q z T I N ce sl (pc + 3) lv st) : V Γ E Q z T I N ce sl pc lv (.inl x :: st) := by
  intro H locs ls hR hS hl
  have e : (Int32.ofInt x = 0) ↔ (x = 0) := by rw [← Int32.toInt_inj, x32 hx, Int32.toInt_zero]
  exact lv_if_eq D.1.1.1 D.1.1.2.1 (D.1.dec h) ht (fun c => kt (e.mp c) H locs ls hR hS hl) (fun c => kf (fun q => c (e.mpr q)) H locs ls hR hS hl)
theorem V_ieq (D : xD Γ E M lev mc ms) (tgt : Nat) {off : Int} {x y : Int} (h : xfe M pc = some (.if_icmp .eq off, 3)) (ht : (pc : Int) + off = (tgt : Int)) (hx : xIn x) (hy : xIn y) (kt : x = y → V Γ E Q z T I N ce sl tgt lv st) (kf : ¬ (x = y) → V Γ E Q z T I N ce sl (pc + 3) lv st) : V Γ E Q z T I N ce sl pc lv (.inl y :: .inl x :: st) := by
  intro H locs ls hR hS hl
  have e : (Int32.ofInt x = Int32.ofInt y) ↔ (x = y) := by rw [← Int32.toInt_inj, x32 hx, x32 hy]
  exact lv_icmp_eq D.1.1.1 D.1.1.2.1 (D.1.dec h) ht (fun c => kt (e.mp c) H locs ls hR hS hl) (fun c => kf (fun q => c (e.mpr q)) H locs ls hR hS hl)
theorem V_ne (D : xD Γ E M lev mc ms) (tgt : Nat) {off : Int} {x : Int} (h : xfe M pc = some (.ifCond .ne off, 3)) (ht : (pc : Int) + off = (tgt : Int)) (hx : xIn x) (kt : ¬ x = 0 → V Γ E Q z T I N ce sl tgt lv st) (kf : x = 0 → V Γ E Q z T I N ce sl (pc + 3) lv st) : V Γ E Q z T I N ce sl pc lv (.inl x :: st) := by
  intro H locs ls hR hS hl
  have e : (Int32.ofInt x = 0) ↔ (x = 0) := by rw [← Int32.toInt_inj, x32 hx, Int32.toInt_zero]
  exact lv_if_ne D.1.1.1 D.1.1.2.1 (D.1.dec h) ht (fun c => kt (fun q => c (e.mpr q)) H locs ls hR hS hl) (fun c => kf (e.mp c) H locs ls hR hS hl)
theorem V_ine (D : xD Γ E M lev mc ms) (tgt : Nat) {off : Int} {x y : Int} (h : xfe M pc = some (.if_icmp .ne off, 3)) (ht : (pc : Int) + off = (tgt : Int)) (hx : xIn x) (hy : xIn y) (kt : ¬ x = y → V Γ E Q z T I N ce sl tgt lv st) (kf : x = y → V Γ E Q z T I N ce sl (pc + 3) lv st) : V Γ E Q z T I N ce sl pc lv (.inl y :: .inl x :: st) := by
  intro H locs ls hR hS hl
  have e : (Int32.ofInt x = Int32.ofInt y) ↔ (x = y) := by rw [← Int32.toInt_inj, x32 hx, x32 hy]
  exact lv_icmp_ne D.1.1.1 D.1.1.2.1 (D.1.dec h) ht (fun c => kt (fun q => c (e.mpr q)) H locs ls hR hS hl) (fun c => kf (e.mp c) H locs ls hR hS hl)
theorem V_lt (D : xD Γ E M lev mc ms) (tgt : Nat) {off : Int} {x : Int} (h : xfe M pc = some (.ifCond .lt off, 3)) (ht : (pc : Int) + off = (tgt : Int)) (hx : xIn x) (kt : x < 0 → V Γ E Q z T I N ce sl tgt lv st) (kf : ¬ (x < 0) → V Γ E Q z T I N ce sl (pc + 3) lv st) : V Γ E Q z T I N ce sl pc lv (.inl x :: st) := by
  intro H locs ls hR hS hl
  have e : (Int32.ofInt x < 0) ↔ (x < 0) := by rw [Int32.lt_iff_toInt_lt, x32 hx, Int32.toInt_zero]
  exact lv_if_lt D.1.1.1 D.1.1.2.1 (D.1.dec h) ht (fun c => kt (e.mp c) H locs ls hR hS hl) (fun c => kf (fun q => c (e.mpr q)) H locs ls hR hS hl)
theorem V_ilt (D : xD Γ E M lev mc ms) (tgt : Nat) {off : Int} {x y : Int} (h : xfe M pc = some (.if_icmp .lt off, 3)) (ht : (pc : Int) + off = (tgt : Int)) (hx : xIn x) (hy : xIn y) (kt : x < y → V Γ E Q z T I N ce sl tgt lv st) (kf : ¬ (x < y) → V Γ E Q z T I N ce sl (pc + 3) lv st) : V Γ E Q z T I N ce sl pc lv (.inl y :: .inl x :: st) := by
  intro H locs ls hR hS hl
  have e : (Int32.ofInt x < Int32.ofInt y) ↔ (x < y) := by rw [Int32.lt_iff_toInt_lt, x32 hx, x32 hy]
  exact lv_icmp_lt D.1.1.1 D.1.1.2.1 (D.1.dec h) ht (fun c => kt (e.mp c) H locs ls hR hS hl) (fun c => kf (fun q => c (e.mpr q)) H locs ls hR hS hl)
theorem V_ge (D : xD Γ E M lev mc ms) (tgt : Nat) {off : Int} {x : Int} (h : xfe M pc = some (.ifCond .ge off, 3)) (ht : (pc : Int) + off = (tgt : Int)) (hx : xIn x) (kt : 0 ≤ x → V Γ E Q z T I N ce sl tgt lv st) (kf : ¬ (0 ≤ x) → V Γ E Q z T I N ce sl (pc + 3) lv st) : V Γ E Q z T I N ce sl pc lv (.inl x :: st) := by
  intro H locs ls hR hS hl
  have e : (0 ≤ Int32.ofInt x) ↔ (0 ≤ x) := by rw [Int32.le_iff_toInt_le, x32 hx, Int32.toInt_zero]
  exact lv_if_ge D.1.1.1 D.1.1.2.1 (D.1.dec h) ht (fun c => kt (e.mp c) H locs ls hR hS hl) (fun c => kf (fun q => c (e.mpr q)) H locs ls hR hS hl)
theorem V_ige (D : xD Γ E M lev mc ms) (tgt : Nat) {off : Int} {x y : Int} (h : xfe M pc = some (.if_icmp .ge off, 3)) (ht : (pc : Int) + off = (tgt : Int)) (hx : xIn x) (hy : xIn y) (kt : y ≤ x → V Γ E Q z T I N ce sl tgt lv st) (kf : ¬ (y ≤ x) → V Γ E Q z T I N ce sl (pc + 3) lv st) : V Γ E Q z T I N ce sl pc lv (.inl y :: .inl x :: st) := by
  intro H locs ls hR hS hl
  have e : (Int32.ofInt y ≤ Int32.ofInt x) ↔ (y ≤ x) := by rw [Int32.le_iff_toInt_le, x32 hx, x32 hy]
  exact lv_icmp_ge D.1.1.1 D.1.1.2.1 (D.1.dec h) ht (fun c => kt (e.mp c) H locs ls hR hS hl) (fun c => kf (fun q => c (e.mpr q)) H locs ls hR hS hl)
theorem V_gt (D : xD Γ E M lev mc ms) (tgt : Nat) {off : Int} {x : Int} (h : xfe M pc = some (.ifCond .gt off, 3)) (ht : (pc : Int) + off = (tgt : Int)) (hx : xIn x) (kt : 0 < x → V Γ E Q z T I N ce sl tgt lv st) (kf : ¬ (0 < x) → V Γ E Q z T I N ce sl (pc + 3) lv st) : V Γ E Q z T I N ce sl pc lv (.inl x :: st) := by
  intro H locs ls hR hS hl
  have e : (0 < Int32.ofInt x) ↔ (0 < x) := by rw [Int32.lt_iff_toInt_lt, x32 hx, Int32.toInt_zero]
  exact lv_if_gt D.1.1.1 D.1.1.2.1 (D.1.dec h) ht (fun c => kt (e.mp c) H locs ls hR hS hl) (fun c => kf (fun q => c (e.mpr q)) H locs ls hR hS hl)
theorem V_igt (D : xD Γ E M lev mc ms) (tgt : Nat) {off : Int} {x y : Int} (h : xfe M pc = some (.if_icmp .gt off, 3)) (ht : (pc : Int) + off = (tgt : Int)) (hx : xIn x) (hy : xIn y) (kt : y < x → V Γ E Q z T I N ce sl tgt lv st) (kf : ¬ (y < x) → V Γ E Q z T I N ce sl (pc + 3) lv st) : V Γ E Q z T I N ce sl pc lv (.inl y :: .inl x :: st) := by
  intro H locs ls hR hS hl
  have e : (Int32.ofInt y < Int32.ofInt x) ↔ (y < x) := by rw [Int32.lt_iff_toInt_lt, x32 hx, x32 hy]
  exact lv_icmp_gt D.1.1.1 D.1.1.2.1 (D.1.dec h) ht (fun c => kt (e.mp c) H locs ls hR hS hl) (fun c => kf (fun q => c (e.mpr q)) H locs ls hR hS hl)
theorem V_le (D : xD Γ E M lev mc ms) (tgt : Nat) {off : Int} {x : Int} (h : xfe M pc = some (.ifCond .le off, 3)) (ht : (pc : Int) + off = (tgt : Int)) (hx : xIn x) (kt : x ≤ 0 → V Γ E Q z T I N ce sl tgt lv st) (kf : ¬ (x ≤ 0) → V Γ E Q z T I N ce sl (pc + 3) lv st) : V Γ E Q z T I N ce sl pc lv (.inl x :: st) := by
  intro H locs ls hR hS hl
  have e : (Int32.ofInt x ≤ 0) ↔ (x ≤ 0) := by rw [Int32.le_iff_toInt_le, x32 hx, Int32.toInt_zero]
  exact lv_if_le D.1.1.1 D.1.1.2.1 (D.1.dec h) ht (fun c => kt (e.mp c) H locs ls hR hS hl) (fun c => kf (fun q => c (e.mpr q)) H locs ls hR hS hl)
theorem V_ile (D : xD Γ E M lev mc ms) (tgt : Nat) {off : Int} {x y : Int} (h : xfe M pc = some (.if_icmp .le off, 3)) (ht : (pc : Int) + off = (tgt : Int)) (hx : xIn x) (hy : xIn y) (kt : x ≤ y → V Γ E Q z T I N ce sl tgt lv st) (kf : ¬ (x ≤ y) → V Γ E Q z T I N ce sl (pc + 3) lv st) : V Γ E Q z T I N ce sl pc lv (.inl y :: .inl x :: st) := by
  intro H locs ls hR hS hl
  have e : (Int32.ofInt x ≤ Int32.ofInt y) ↔ (x ≤ y) := by rw [Int32.le_iff_toInt_le, x32 hx, x32 hy]
  exact lv_icmp_le D.1.1.1 D.1.1.2.1 (D.1.dec h) ht (fun c => kt (e.mp c) H locs ls hR hS hl) (fun c => kf (fun q => c (e.mpr q)) H locs ls hR hS hl)
theorem V_null (D : xD Γ E M lev mc ms) (tgt : Nat) {off : Int} {x : Nat} (h : xfe M pc = some (.ifnull off, 3)) (ht : (pc : Int) + off = (tgt : Int)) (kt : x = 0 → V Γ E Q z T I N ce sl tgt lv st) (kf : 0 < x → V Γ E Q z T I N ce sl (pc + 3) lv st) : V Γ E Q z T I N ce sl pc lv (.inr (.inr x) :: st) := by
  intro H locs ls hR hS hl
  show W _ _ _ _ _ _ _ _ _ _ _ _ _ _ _ (F0 _ _ _ (xr x :: st.map xv))
  by_cases hx : x = 0
  · rw [hx, xr_0]; exact lv_ifnullN D.1.1.1 D.1.1.2.1 (D.1.dec h) ht (kt hx H locs ls hR hS hl)
  · rw [xr_pos (by omega)]; exact lv_ifnull D.1.1.1 D.1.1.2.1 (D.1.dec h) (kf (by omega) H locs ls hR hS hl)
theorem V_nonnull (D : xD Γ E M lev mc ms) (tgt : Nat) {off : Int} {x : Nat} (h : xfe M pc = some (.ifnonnull off, 3)) (ht : (pc : Int) + off = (tgt : Int)) (kt : 0 < x → V Γ E Q z T I N ce sl tgt lv st) (kf : x = 0 → V Γ E Q z T I N ce sl (pc + 3) lv st) : V Γ E Q z T I N ce sl pc lv (.inr (.inr x) :: st) := by
  intro H locs ls hR hS hl
  show W _ _ _ _ _ _ _ _ _ _ _ _ _ _ _ (F0 _ _ _ (xr x :: st.map xv))
  by_cases hx : x = 0
  · rw [hx, xr_0]; exact lv_ifnonnullN D.1.1.1 D.1.1.2.1 (D.1.dec h) (kf hx H locs ls hR hS hl)
  · rw [xr_pos (by omega)]; exact lv_ifnonnull D.1.1.1 D.1.1.2.1 (D.1.dec h) ht (kt (by omega) H locs ls hR hS hl)
theorem xr_rf (x : Nat) : xr x = va_rf (if x = 0 then none else some x) := by
  unfold xr; by_cases h : x = 0 <;> simp [h, va_rf]
theorem xrf_inj {x y : Nat} : ((if x = 0 then none else some x : Option Nat) = (if y = 0 then none else some y)) ↔ x = y := by
  by_cases h : x = 0 <;> by_cases h2 : y = 0 <;> simp [h, h2] <;> omega
theorem V_aeq (D : xD Γ E M lev mc ms) (tgt : Nat) {off : Int} {x y : Nat} (h : xfe M pc = some (.if_acmp .eq off, 3)) (ht : (pc : Int) + off = (tgt : Int)) (kt : x = y → V Γ E Q z T I N ce sl tgt lv st) (kf : ¬ x = y → V Γ E Q z T I N ce sl (pc + 3) lv st) : V Γ E Q z T I N ce sl pc lv (.inr (.inr y) :: .inr (.inr x) :: st) := by
  intro H locs ls hR hS hl
  show W _ _ _ _ _ _ _ _ _ _ _ _ _ _ _ (F0 _ _ _ (xr y :: xr x :: st.map xv))
  rw [xr_rf x, xr_rf y]
  exact lv_acmp_eq D.1.1.1 D.1.1.2.1 (D.1.dec h) ht (fun c => kt (xrf_inj.mp c) H locs ls hR hS hl) (fun c => kf (fun q => c (xrf_inj.mpr q)) H locs ls hR hS hl)
theorem V_ane (D : xD Γ E M lev mc ms) (tgt : Nat) {off : Int} {x y : Nat} (h : xfe M pc = some (.if_acmp .ne off, 3)) (ht : (pc : Int) + off = (tgt : Int)) (kt : ¬ x = y → V Γ E Q z T I N ce sl tgt lv st) (kf : x = y → V Γ E Q z T I N ce sl (pc + 3) lv st) : V Γ E Q z T I N ce sl pc lv (.inr (.inr y) :: .inr (.inr x) :: st) := by
  intro H locs ls hR hS hl
  show W _ _ _ _ _ _ _ _ _ _ _ _ _ _ _ (F0 _ _ _ (xr y :: xr x :: st.map xv))
  rw [xr_rf x, xr_rf y]
  exact lv_acmp_ne D.1.1.1 D.1.1.2.1 (D.1.dec h) ht (fun c => kt (fun q => c (xrf_inj.mpr q)) H locs ls hR hS hl) (fun c => kf (by first | exact xrf_inj.mp c | exact xrf_inj.mp (Classical.not_not.mp c)) H locs ls hR hS hl)
/-! answers -/
theorem V_iret (D : xD Γ E M lev mc ms) {x : Int} (h : xfe M pc = some (.ireturn, 1)) (hr : M.2.2.2.1 = some .int) (hp : post (some (.inl x)) z T I N) : V Γ E (xQ Γ E post mc ms) z T I N mc ms pc lv [.inl x] := by
  intro H locs ls hR hS hl
  exact W.iret (v := Int32.ofInt x) D.1.1.1 D.1.1.2.1 (by rw [D.1.1.2.2.1, hr]) (fun t ht hW => ⟨⟨some (.inl x), z, T, I, N, rfl, hp, by rw [ht]; exact hR⟩, hS.F ht⟩) hS.2.2 (D.1.dec h) D.1.1.2.2.2.2.2.1
theorem V_zret (D : xD Γ E M lev mc ms) {x : Int} (h : xfe M pc = some (.ireturn, 1)) (hr : M.2.2.2.1 = some .boolean) (hx : x = 0 ∨ x = 1) (hp : post (some (.inl x)) z T I N) : V Γ E (xQ Γ E post mc ms) z T I N mc ms pc lv [.inl x] := by
  intro H locs ls hR hS hl
  exact W.zret (v := Int32.ofInt x) (ty := .boolean) D.1.1.1 D.1.1.2.1 (by rw [D.1.1.2.2.1, hr]) (xnar_bool hx).1 (fun t ht hW => ⟨⟨some (.inl x), z, T, I, N, rfl, hp, by rw [ht]; exact hR⟩, hS.F ht⟩) hS.2.2 (D.1.dec h) D.1.1.2.2.2.2.2.1
theorem V_lret (D : xD Γ E M lev mc ms) {x : Int} (h : xfe M pc = some (.lreturn, 1)) (hr : M.2.2.2.1 = some .long) (hp : post (some (.inr (.inl x))) z T I N) : V Γ E (xQ Γ E post mc ms) z T I N mc ms pc lv [.inr (.inl x)] := by
  intro H locs ls hR hS hl
  exact W.lret (v := Int64.ofInt x) D.1.1.1 D.1.1.2.1 (by rw [D.1.1.2.2.1, hr]) (fun t ht hW => ⟨⟨some (.inr (.inl x)), z, T, I, N, rfl, hp, by rw [ht]; exact hR⟩, hS.F ht⟩) hS.2.2 (D.1.dec h) D.1.1.2.2.2.2.2.1
theorem V_aret (D : xD Γ E M lev mc ms) {x : Nat} {n : String} (h : xfe M pc = some (.areturn, 1)) (hr : M.2.2.2.1 = some (.object n)) (hp : post (some (.inr (.inr x))) z T I N) : V Γ E (xQ Γ E post mc ms) z T I N mc ms pc lv [.inr (.inr x)] := by
  intro H locs ls hR hS hl
  exact W.aret (v := xr x) (rt := .object n) D.1.1.1 D.1.1.2.1 (by rw [D.1.1.2.2.1, hr]) (Or.inl ⟨n, rfl⟩) (by unfold xr; split; exact Or.inl rfl; exact Or.inr ⟨x, rfl⟩) (fun t ht hW => ⟨⟨some (.inr (.inr x)), z, T, I, N, rfl, hp, by rw [ht]; exact hR⟩, hS.F ht⟩) hS.2.2 (D.1.dec h) D.1.1.2.2.2.2.2.1
theorem V_vret (D : xD Γ E M lev mc ms) (h : xfe M pc = some (.return_, 1)) (hr : M.2.2.2.1 = none) (hp : post none z T I N) : V Γ E (xQ Γ E post mc ms) z T I N mc ms pc lv [] := by
  intro H locs ls hR hS hl
  exact W.vret D.1.1.1 D.1.1.2.1 (by rw [D.1.1.2.2.1, hr]) (fun t ht hW => ⟨⟨none, z, T, I, N, rfl, hp, by rw [ht]; exact hR⟩, hS.F ht⟩) hS.2.2 (D.1.dec h) D.1.1.2.2.2.2.2.1
end XRules
