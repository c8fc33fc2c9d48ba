section XWr
variable {z : Nat} {T : xY} {I : xI} {N : xN} {d o : Nat} {x : Dk}
def hL_begin : xHH := [(0, 11, 14, 13)]
theorem w_begin {ty co id w n : Int} (h : DkAt T I N d x) (h1 : xIn ty) (h2 : xIn co) (h3 : xIn id) (h4 : xIn n) (hk : (dBegin x ty co id w n).1 ≤ 1) : WSpec mL_begin hL_begin 8 [.inr (.inr d), .inl ty, .inl co, .inl id, .inr (.inl w), .inl n] z T I N 1 6 (WP0 z T I N d (dBegin x ty co id w n)) := by
  refine WSpec_of okL_begin (by decide) (by decide) (Nat.le_of_ble_eq_true rfl) fun Γ E D => ?_
  refine V_run D.1 [] 8 rfl trivial ?_
  refine V_tryV (av := [.inl ty, .inl co, .inl id, .inr (.inl w), .inl n]) (st := []) D rfl mwX9_begin rfl lkL_X9_begin (s_dBegin h h1 h2 h3 h4) h.1.1 rfl ⟨by decide, by decide⟩ (fun r z1 T1 I1 N1 P => ?_) (fun cls z1 T1 I1 N1 P => ?_)
  · obtain ⟨rfl, rfl, e0, rfl, f1, k1⟩ := P
    refine V_run D.1 [] 19 rfl trivial ?_
    exact V_iret D.1 rfl rfl ⟨by rw [e0]; rfl, Nat.le_refl _, rfl, fun a ha => (f1 a ha).1, fun a ha => (f1 a ha).2, k1⟩
  · obtain ⟨e0, ecls, hz, rfl, f1, k1⟩ := P
    have ec : cls = "java/lang/IllegalArgumentException" := by rw [ecls]; unfold cs2; rw [if_pos (by omega)]
    subst ec
    refine ⟨[], (0, 11, 14, 13), [], rfl, ⟨rfl, by decide, ck13, cs13, fun y hy => nomatch hy⟩, 7, 2, Or.inl ⟨rfl, rfl⟩, by decide, ?_⟩
    refine V_run D.1 [] 17 rfl trivial ?_
    exact V_iret D.1 rfl rfl ⟨by rw [show (dBegin x ty co id w n).1 = 1 by omega]; rfl, hz, rfl, fun a ha => (f1 a ha).1, fun a ha => (f1 a ha).2, k1⟩
def hL_option : xHH := [(0, 13, 16, 13), (0, 13, 20, 19)]
theorem w_option {num w n : Int} (h : DkAt T I N d x) (hx : DkOk x) (h1 : xIn num) (h4 : xIn n) (ho : T o = some (.inl (2, 1))) (hod : o < d ∨ d + 494 ≤ o) (hk : (dOption x num w n).1 ≤ 2) (hv : xIn (dOption x num w n).2.1) : WSpec mL_option hL_option 8 [.inr (.inr d), .inl num, .inr (.inl w), .inl n, .inr (.inr o)] z T I N 1 6 (WP z T I N d o (dOption x num w n)) := by
  refine WSpec_of okL_option (by decide) (by decide) (Nat.le_of_ble_eq_true rfl) fun Γ E D => ?_
  refine V_run D.1 [] 8 rfl trivial ?_
  refine V_tryV (av := [.inl num, .inr (.inl w), .inl n]) (st := [.inl 0, .inr (.inr o)]) D rfl mwX9_option rfl lkL_X9_option (s_dOption h hx h1 h4) h.1.1 rfl ⟨by decide, by decide⟩ (fun r z1 T1 I1 N1 P => ?_) (fun cls z1 T1 I1 N1 P => ?_)
  · obtain ⟨rfl, rfl, e0, rfl, f1, k1⟩ := P
    refine V_run D.1 [] 25 rfl ⟨⟨1, ho, by decide, by decide⟩, hv, trivial⟩ ?_
    exact V_iret D.1 rfl rfl ⟨by rw [e0]; rfl, Nat.le_refl _, rfl, fun a ha hao => by rw [xup_ne hao]; exact (f1 a ha).1, fun a ha => (f1 a ha).2, k1.kept (fun a h1 h2 => ⟨xup_ne (by omega), rfl⟩), fun _ => xup_f⟩
  · obtain ⟨e0, ecls, hz, rfl, f1, k1⟩ := P
    by_cases e1 : (dOption x num w n).1 = 1
    · have ec : cls = "java/lang/IllegalArgumentException" := by rw [ecls]; unfold cs2; rw [if_pos e1]
      subst ec
      refine ⟨[], (0, 13, 16, 13), [(0, 13, 20, 19)], rfl, ⟨rfl, by decide, ck13, cs13, fun y hy => nomatch hy⟩, 6, 2, Or.inl ⟨rfl, rfl⟩, by decide, ?_⟩
      refine V_run D.1 [] 19 rfl trivial ?_
      exact V_iret D.1 rfl rfl ⟨by rw [show (dOption x num w n).1 = 1 by omega]; rfl, hz, rfl, fun a ha hao => (f1 a ha).1, fun a ha => (f1 a ha).2, k1, fun q => absurd q e0⟩
    · have ec : cls = "java/lang/IllegalStateException" := by rw [ecls]; unfold cs2; rw [if_neg e1]
      subst ec
      refine ⟨[(0, 13, 16, 13)], (0, 13, 20, 19), [], rfl, ⟨rfl, by decide, ck19, cs19, fun y hy => by rw [List.mem_singleton.mp hy]; exact ⟨rfl, rfl⟩⟩, 6, 2, Or.inl ⟨rfl, rfl⟩, by decide, ?_⟩
      refine V_run D.1 [] 23 rfl trivial ?_
      exact V_iret D.1 rfl rfl ⟨by rw [show (dOption x num w n).1 = 2 by omega]; rfl, hz, rfl, fun a ha hao => (f1 a ha).1, fun a ha => (f1 a ha).2, k1, fun q => absurd q e0⟩
def hL_longer : xHH := [(0, 11, 14, 13), (0, 11, 18, 19)]
theorem w_longer {w n : Int} (h : DkAt T I N d x) (h4 : xIn n) (ho : T o = some (.inl (2, 1))) (hod : o < d ∨ d + 494 ≤ o) (hk : (dLonger x w n).1 ≤ 2) (hv : xIn (dLonger x w n).2.1) : WSpec mL_longer hL_longer 8 [.inr (.inr d), .inr (.inl w), .inl n, .inr (.inr o)] z T I N 1 6 (WP z T I N d o (dLonger x w n)) := by
  refine WSpec_of okL_longer (by decide) (by decide) (Nat.le_of_ble_eq_true rfl) fun Γ E D => ?_
  refine V_run D.1 [] 6 rfl trivial ?_
  refine V_tryV (av := [.inr (.inl w), .inl n]) (st := [.inl 0, .inr (.inr o)]) D rfl mwX9_longer rfl lkL_X9_longer (s_dLonger h h4) h.1.1 rfl ⟨by decide, by decide⟩ (fun r z1 T1 I1 N1 P => ?_) (fun cls z1 T1 I1 N1 P => ?_)
  · obtain ⟨rfl, rfl, e0, rfl, f1, k1⟩ := P
    refine V_run D.1 [] 23 rfl ⟨⟨1, ho, by decide, by decide⟩, hv, trivial⟩ ?_
    exact V_iret D.1 rfl rfl ⟨by rw [e0]; rfl, Nat.le_refl _, rfl, fun a ha hao => by rw [xup_ne hao]; exact (f1 a ha).1, fun a ha => (f1 a ha).2, k1.kept (fun a h1 h2 => ⟨xup_ne (by omega), rfl⟩), fun _ => xup_f⟩
  · obtain ⟨e0, ecls, hz, rfl, f1, k1⟩ := P
    by_cases e1 : (dLonger x w n).1 = 1
    · have ec : cls = "java/lang/IllegalArgumentException" := by rw [ecls]; unfold cs2; rw [if_pos e1]
      subst ec
      refine ⟨[], (0, 11, 14, 13), [(0, 11, 18, 19)], rfl, ⟨rfl, by decide, ck13, cs13, fun y hy => nomatch hy⟩, 5, 2, Or.inl ⟨rfl, rfl⟩, by decide, ?_⟩
      refine V_run D.1 [] 17 rfl trivial ?_
      exact V_iret D.1 rfl rfl ⟨by rw [show (dLonger x w n).1 = 1 by omega]; rfl, hz, rfl, fun a ha hao => (f1 a ha).1, fun a ha => (f1 a ha).2, k1, fun q => absurd q e0⟩
    · have ec : cls = "java/lang/IllegalStateException" := by rw [ecls]; unfold cs2; rw [if_neg e1]
      subst ec
      refine ⟨[(0, 11, 14, 13)], (0, 11, 18, 19), [], rfl, ⟨rfl, by decide, ck19, cs19, fun y hy => by rw [List.mem_singleton.mp hy]; exact ⟨rfl, rfl⟩⟩, 5, 2, Or.inl ⟨rfl, rfl⟩, by decide, ?_⟩
      refine V_run D.1 [] 21 rfl trivial ?_
      exact V_iret D.1 rfl rfl ⟨by rw [show (dLonger x w n).1 = 2 by omega]; rfl, hz, rfl, fun a ha hao => (f1 a ha).1, fun a ha => (f1 a ha).2, k1, fun q => absurd q e0⟩
def hL_payload : xHH := [(0, 11, 14, 13), (0, 11, 18, 19)]
theorem w_payload {w n : Int} (h : DkAt T I N d x) (h4 : xIn n) (ho : T o = some (.inl (2, 1))) (hod : o < d ∨ d + 494 ≤ o) (hk : (dPayload x w n).1 ≤ 2) (hv : xIn (dPayload x w n).2.1) : WSpec mL_payload hL_payload 8 [.inr (.inr d), .inr (.inl w), .inl n, .inr (.inr o)] z T I N 1 6 (WP z T I N d o (dPayload x w n)) := by
  refine WSpec_of okL_payload (by decide) (by decide) (Nat.le_of_ble_eq_true rfl) fun Γ E D => ?_
  refine V_run D.1 [] 6 rfl trivial ?_
  refine V_tryV (av := [.inr (.inl w), .inl n]) (st := [.inl 0, .inr (.inr o)]) D rfl mwX9_payload rfl lkL_X9_payload (s_dPayload h h4) h.1.1 rfl ⟨by decide, by decide⟩ (fun r z1 T1 I1 N1 P => ?_) (fun cls z1 T1 I1 N1 P => ?_)
  · obtain ⟨rfl, rfl, e0, rfl, f1, k1⟩ := P
    refine V_run D.1 [] 23 rfl ⟨⟨1, ho, by decide, by decide⟩, hv, trivial⟩ ?_
    exact V_iret D.1 rfl rfl ⟨by rw [e0]; rfl, Nat.le_refl _, rfl, fun a ha hao => by rw [xup_ne hao]; exact (f1 a ha).1, fun a ha => (f1 a ha).2, k1.kept (fun a h1 h2 => ⟨xup_ne (by omega), rfl⟩), fun _ => xup_f⟩
  · obtain ⟨e0, ecls, hz, rfl, f1, k1⟩ := P
    by_cases e1 : (dPayload x w n).1 = 1
    · have ec : cls = "java/lang/IllegalArgumentException" := by rw [ecls]; unfold cs2; rw [if_pos e1]
      subst ec
      refine ⟨[], (0, 11, 14, 13), [(0, 11, 18, 19)], rfl, ⟨rfl, by decide, ck13, cs13, fun y hy => nomatch hy⟩, 5, 2, Or.inl ⟨rfl, rfl⟩, by decide, ?_⟩
      refine V_run D.1 [] 17 rfl trivial ?_
      exact V_iret D.1 rfl rfl ⟨by rw [show (dPayload x w n).1 = 1 by omega]; rfl, hz, rfl, fun a ha hao => (f1 a ha).1, fun a ha => (f1 a ha).2, k1, fun q => absurd q e0⟩
    · have ec : cls = "java/lang/IllegalStateException" := by rw [ecls]; unfold cs2; rw [if_neg e1]
      subst ec
      refine ⟨[(0, 11, 14, 13)], (0, 11, 18, 19), [], rfl, ⟨rfl, by decide, ck19, cs19, fun y hy => by rw [List.mem_singleton.mp hy]; exact ⟨rfl, rfl⟩⟩, 5, 2, Or.inl ⟨rfl, rfl⟩, by decide, ?_⟩
      refine V_run D.1 [] 21 rfl trivial ?_
      exact V_iret D.1 rfl rfl ⟨by rw [show (dPayload x w n).1 = 2 by omega]; rfl, hz, rfl, fun a ha hao => (f1 a ha).1, fun a ha => (f1 a ha).2, k1, fun q => absurd q e0⟩
def hL_write : xHH := [(0, 8, 11, 19)]
theorem w_write  (h : DkAt T I N d x) (hx : DkOk x) (ho : T o = some (.inl (2, 1))) (hod : o < d ∨ d + 494 ≤ o) (hk : (dWrite x).1 ≤ 1) (hv : xIn (dWrite x).2.1) : WSpec mL_write hL_write 8 [.inr (.inr d), .inr (.inr o)] z T I N 1 6 (WP z T I N d o (dWrite x)) := by
  refine WSpec_of okL_write (by decide) (by decide) (Nat.le_of_ble_eq_true rfl) fun Γ E D => ?_
  refine V_run D.1 [] 3 rfl trivial ?_
  refine V_tryV (av := []) (st := [.inl 0, .inr (.inr o)]) D rfl mwX9_write rfl lkL_X9_write (s_dWrite h hx) h.1.1 rfl ⟨by decide, by decide⟩ (fun r z1 T1 I1 N1 P => ?_) (fun cls z1 T1 I1 N1 P => ?_)
  · obtain ⟨rfl, rfl, e0, rfl, f1, k1⟩ := P
    refine V_run D.1 [] 15 rfl ⟨⟨1, ho, by decide, by decide⟩, hv, trivial⟩ ?_
    exact V_iret D.1 rfl rfl ⟨by rw [e0]; rfl, Nat.le_refl _, rfl, fun a ha hao => by rw [xup_ne hao]; exact (f1 a ha).1, fun a ha => (f1 a ha).2, k1.kept (fun a h1 h2 => ⟨xup_ne (by omega), rfl⟩), fun _ => xup_f⟩
  · obtain ⟨e0, ecls, hz, rfl, f1, k1⟩ := P
    have ec : cls = "java/lang/IllegalStateException" := ecls
    subst ec
    refine ⟨[], (0, 8, 11, 19), [], rfl, ⟨rfl, by decide, ck19, cs19, fun y hy => nomatch hy⟩, 2, 1, Or.inr ⟨2, rfl, rfl, rfl⟩, by decide, ?_⟩
    refine V_run D.1 [] 13 rfl trivial ?_
    exact V_iret D.1 rfl rfl ⟨by rw [show (dWrite x).1 = 1 by omega]; rfl, hz, rfl, fun a ha hao => (f1 a ha).1, fun a ha => (f1 a ha).2, k1, fun q => absurd q e0⟩
def hL_feed : xHH := [(0, 11, 14, 13), (0, 11, 18, 19)]
theorem w_feed {w n : Int} (h : DkAt T I N d x) (h4 : xIn n) (ho : T o = some (.inl (2, 1))) (hod : o < d ∨ d + 494 ≤ o) (hk : (dFeed x w n).1 ≤ 2) (hv : xIn (dFeed x w n).2.1) : WSpec mL_feed hL_feed 8 [.inr (.inr d), .inr (.inl w), .inl n, .inr (.inr o)] z T I N 1 6 (WP z T I N d o (dFeed x w n)) := by
  refine WSpec_of okL_feed (by decide) (by decide) (Nat.le_of_ble_eq_true rfl) fun Γ E D => ?_
  refine V_run D.1 [] 6 rfl trivial ?_
  refine V_tryV (av := [.inr (.inl w), .inl n]) (st := [.inl 0, .inr (.inr o)]) D rfl mwX9_feed rfl lkL_X9_feed (s_dFeed h h4) h.1.1 rfl ⟨by decide, by decide⟩ (fun r z1 T1 I1 N1 P => ?_) (fun cls z1 T1 I1 N1 P => ?_)
  · obtain ⟨rfl, rfl, e0, rfl, f1, k1⟩ := P
    refine V_run D.1 [] 23 rfl ⟨⟨1, ho, by decide, by decide⟩, hv, trivial⟩ ?_
    exact V_iret D.1 rfl rfl ⟨by rw [e0]; rfl, Nat.le_refl _, rfl, fun a ha hao => by rw [xup_ne hao]; exact (f1 a ha).1, fun a ha => (f1 a ha).2, k1.kept (fun a h1 h2 => ⟨xup_ne (by omega), rfl⟩), fun _ => xup_f⟩
  · obtain ⟨e0, ecls, hz, rfl, f1, k1⟩ := P
    by_cases e1 : (dFeed x w n).1 = 1
    · have ec : cls = "java/lang/IllegalArgumentException" := by rw [ecls]; unfold cs2; rw [if_pos e1]
      subst ec
      refine ⟨[], (0, 11, 14, 13), [(0, 11, 18, 19)], rfl, ⟨rfl, by decide, ck13, cs13, fun y hy => nomatch hy⟩, 5, 2, Or.inl ⟨rfl, rfl⟩, by decide, ?_⟩
      refine V_run D.1 [] 17 rfl trivial ?_
      exact V_iret D.1 rfl rfl ⟨by rw [show (dFeed x w n).1 = 1 by omega]; rfl, hz, rfl, fun a ha hao => (f1 a ha).1, fun a ha => (f1 a ha).2, k1, fun q => absurd q e0⟩
    · have ec : cls = "java/lang/IllegalStateException" := by rw [ecls]; unfold cs2; rw [if_neg e1]
      subst ec
      refine ⟨[(0, 11, 14, 13)], (0, 11, 18, 19), [], rfl, ⟨rfl, by decide, ck19, cs19, fun y hy => by rw [List.mem_singleton.mp hy]; exact ⟨rfl, rfl⟩⟩, 5, 2, Or.inl ⟨rfl, rfl⟩, by decide, ?_⟩
      refine V_run D.1 [] 21 rfl trivial ?_
      exact V_iret D.1 rfl rfl ⟨by rw [show (dFeed x w n).1 = 2 by omega]; rfl, hz, rfl, fun a ha hao => (f1 a ha).1, fun a ha => (f1 a ha).2, k1, fun q => absurd q e0⟩
def hL_end : xHH := [(0, 5, 8, 13)]
theorem w_end {n : Int} (h : DkAt T I N d x) (h4 : xIn n) (hk : (dEnd x n).1 ≤ 1) : WSpec mL_end hL_end 8 [.inr (.inr d), .inl n] z T I N 1 6 (WP0 z T I N d (dEnd x n)) := by
  refine WSpec_of okL_end (by decide) (by decide) (Nat.le_of_ble_eq_true rfl) fun Γ E D => ?_
  refine V_run D.1 [] 2 rfl trivial ?_
  refine V_tryV (av := [.inl n]) (st := []) D rfl mwX9_end rfl lkL_X9_end (s_dEnd h h4) h.1.1 rfl ⟨by decide, by decide⟩ (fun r z1 T1 I1 N1 P => ?_) (fun cls z1 T1 I1 N1 P => ?_)
  · obtain ⟨rfl, rfl, e0, rfl, f1, k1⟩ := P
    refine V_run D.1 [] 12 rfl trivial ?_
    exact V_iret D.1 rfl rfl ⟨by rw [e0]; rfl, Nat.le_refl _, rfl, fun a ha => (f1 a ha).1, fun a ha => (f1 a ha).2, k1⟩
  · obtain ⟨e0, ecls, hz, rfl, f1, k1⟩ := P
    have ec : cls = "java/lang/IllegalArgumentException" := by rw [ecls]; unfold cs2; rw [if_pos (by omega)]
    subst ec
    refine ⟨[], (0, 5, 8, 13), [], rfl, ⟨rfl, by decide, ck13, cs13, fun y hy => nomatch hy⟩, 2, 1, Or.inr ⟨2, rfl, rfl, rfl⟩, by decide, ?_⟩
    refine V_run D.1 [] 10 rfl trivial ?_
    exact V_iret D.1 rfl rfl ⟨by rw [show (dEnd x n).1 = 1 by omega]; rfl, hz, rfl, fun a ha => (f1 a ha).1, fun a ha => (f1 a ha).2, k1⟩
def hL_read : xHH := [(0, 8, 11, 42)]
theorem w_read  (h : DkAt T I N d x) (ho : T o = some (.inl (2, 1))) (hod : o < d ∨ d + 494 ≤ o) (hk : (dRead x).1 ≤ 1) (hv : xIn (dRead x).2.1) : WSpec mL_read hL_read 8 [.inr (.inr d), .inr (.inr o)] z T I N 1 6 (WP z T I N d o (dRead x)) := by
  refine WSpec_of okL_read (by decide) (by decide) (Nat.le_of_ble_eq_true rfl) fun Γ E D => ?_
  refine V_run D.1 [] 3 rfl trivial ?_
  refine V_tryV (av := []) (st := [.inl 0, .inr (.inr o)]) D rfl mwX9_read rfl lkL_X9_read (s_dRead h) h.1.1 rfl ⟨by decide, by decide⟩ (fun r z1 T1 I1 N1 P => ?_) (fun cls z1 T1 I1 N1 P => ?_)
  · obtain ⟨rfl, rfl, e0, rfl, f1, k1⟩ := P
    refine V_run D.1 [] 15 rfl ⟨⟨1, ho, by decide, by decide⟩, hv, trivial⟩ ?_
    exact V_iret D.1 rfl rfl ⟨by rw [e0]; rfl, Nat.le_refl _, rfl, fun a ha hao => by rw [xup_ne hao]; exact (f1 a ha).1, fun a ha => (f1 a ha).2, k1.kept (fun a h1 h2 => ⟨xup_ne (by omega), rfl⟩), fun _ => xup_f⟩
  · obtain ⟨e0, ecls, hz, rfl, f1, k1⟩ := P
    have ec : cls = "java/lang/UnsupportedOperationException" := ecls
    subst ec
    refine ⟨[], (0, 8, 11, 42), [], rfl, ⟨rfl, by decide, ck42, cs42, fun y hy => nomatch hy⟩, 2, 1, Or.inr ⟨2, rfl, rfl, rfl⟩, by decide, ?_⟩
    refine V_run D.1 [] 13 rfl trivial ?_
    exact V_iret D.1 rfl rfl ⟨by rw [show (dRead x).1 = 1 by omega]; rfl, hz, rfl, fun a ha hao => (f1 a ha).1, fun a ha => (f1 a ha).2, k1, fun q => absurd q e0⟩
def hL_about : xHH := [(0, 9, 12, 13)]
theorem w_about {w : Int} (h : DkAt T I N d x) (h4 : xIn w) (ho : T o = some (.inl (2, 1))) (hod : o < d ∨ d + 494 ≤ o) (hk : (dAbout x w).1 ≤ 1) (hv : xIn (dAbout x w).2.1) : WSpec mL_about hL_about 8 [.inr (.inr d), .inl w, .inr (.inr o)] z T I N 1 6 (WP z T I N d o (dAbout x w)) := by
  refine WSpec_of okL_about (by decide) (by decide) (Nat.le_of_ble_eq_true rfl) fun Γ E D => ?_
  refine V_run D.1 [] 4 rfl trivial ?_
  refine V_tryV (av := [.inl w]) (st := [.inl 0, .inr (.inr o)]) D rfl mwX9_about rfl lkL_X9_about (s_dAbout h h4) h.1.1 rfl ⟨by decide, by decide⟩ (fun r z1 T1 I1 N1 P => ?_) (fun cls z1 T1 I1 N1 P => ?_)
  · obtain ⟨rfl, rfl, e0, rfl, f1, k1⟩ := P
    refine V_run D.1 [] 16 rfl ⟨⟨1, ho, by decide, by decide⟩, hv, trivial⟩ ?_
    exact V_iret D.1 rfl rfl ⟨by rw [e0]; rfl, Nat.le_refl _, rfl, fun a ha hao => by rw [xup_ne hao]; exact (f1 a ha).1, fun a ha => (f1 a ha).2, k1.kept (fun a h1 h2 => ⟨xup_ne (by omega), rfl⟩), fun _ => xup_f⟩
  · obtain ⟨e0, ecls, hz, rfl, f1, k1⟩ := P
    have ec : cls = "java/lang/IllegalArgumentException" := by rw [ecls]; unfold cs2; rw [if_pos (by omega)]
    subst ec
    refine ⟨[], (0, 9, 12, 13), [], rfl, ⟨rfl, by decide, ck13, cs13, fun y hy => nomatch hy⟩, 3, 1, Or.inr ⟨3, rfl, rfl, rfl⟩, by decide, ?_⟩
    refine V_run D.1 [] 14 rfl trivial ?_
    exact V_iret D.1 rfl rfl ⟨by rw [show (dAbout x w).1 = 1 by omega]; rfl, hz, rfl, fun a ha hao => (f1 a ha).1, fun a ha => (f1 a ha).2, k1, fun q => absurd q e0⟩
def hL_byteOf : xHH := [(0, 10, 13, 13)]
theorem w_byteOf {p i : Int} (h : DkAt T I N d x) (h3 : xIn p) (h4 : xIn i) (ho : T o = some (.inl (2, 1))) (hod : o < d ∨ d + 494 ≤ o) (hk : (dByteOf x p i).1 ≤ 1) (hv : xIn (dByteOf x p i).2.1) : WSpec mL_byteOf hL_byteOf 8 [.inr (.inr d), .inl p, .inl i, .inr (.inr o)] z T I N 1 6 (WP z T I N d o (dByteOf x p i)) := by
  refine WSpec_of okL_byteOf (by decide) (by decide) (Nat.le_of_ble_eq_true rfl) fun Γ E D => ?_
  refine V_run D.1 [] 5 rfl trivial ?_
  refine V_tryV (av := [.inl p, .inl i]) (st := [.inl 0, .inr (.inr o)]) D rfl mwX9_byteOf rfl lkL_X9_byteOf (s_dByteOf h h3 h4) h.1.1 rfl ⟨by decide, by decide⟩ (fun r z1 T1 I1 N1 P => ?_) (fun cls z1 T1 I1 N1 P => ?_)
  · obtain ⟨rfl, rfl, e0, rfl, f1, k1⟩ := P
    refine V_run D.1 [] 18 rfl ⟨⟨1, ho, by decide, by decide⟩, hv, trivial⟩ ?_
    exact V_iret D.1 rfl rfl ⟨by rw [e0]; rfl, Nat.le_refl _, rfl, fun a ha hao => by rw [xup_ne hao]; exact (f1 a ha).1, fun a ha => (f1 a ha).2, k1.kept (fun a h1 h2 => ⟨xup_ne (by omega), rfl⟩), fun _ => xup_f⟩
  · obtain ⟨e0, ecls, hz, rfl, f1, k1⟩ := P
    have ec : cls = "java/lang/IllegalArgumentException" := by rw [ecls]; unfold cs2; rw [if_pos (by omega)]
    subst ec
    refine ⟨[], (0, 10, 13, 13), [], rfl, ⟨rfl, by decide, ck13, cs13, fun y hy => nomatch hy⟩, 4, 2, Or.inl ⟨rfl, rfl⟩, by decide, ?_⟩
    refine V_run D.1 [] 16 rfl trivial ?_
    exact V_iret D.1 rfl rfl ⟨by rw [show (dByteOf x p i).1 = 1 by omega]; rfl, hz, rfl, fun a ha hao => (f1 a ha).1, fun a ha => (f1 a ha).2, k1, fun q => absurd q e0⟩
def hL_optionAt : xHH := [(0, 10, 13, 13)]
theorem w_optionAt {k w : Int} (h : DkAt T I N d x) (h3 : xIn k) (h4 : xIn w) (ho : T o = some (.inl (2, 1))) (hod : o < d ∨ d + 494 ≤ o) (hk : (dOptionAt x k w).1 ≤ 1) (hv : xIn (dOptionAt x k w).2.1) : WSpec mL_optionAt hL_optionAt 8 [.inr (.inr d), .inl k, .inl w, .inr (.inr o)] z T I N 1 6 (WP z T I N d o (dOptionAt x k w)) := by
  refine WSpec_of okL_optionAt (by decide) (by decide) (Nat.le_of_ble_eq_true rfl) fun Γ E D => ?_
  refine V_run D.1 [] 5 rfl trivial ?_
  refine V_tryV (av := [.inl k, .inl w]) (st := [.inl 0, .inr (.inr o)]) D rfl mwX9_optionAt rfl lkL_X9_optionAt (s_dOptionAt h h3 h4) h.1.1 rfl ⟨by decide, by decide⟩ (fun r z1 T1 I1 N1 P => ?_) (fun cls z1 T1 I1 N1 P => ?_)
  · obtain ⟨rfl, rfl, e0, rfl, f1, k1⟩ := P
    refine V_run D.1 [] 18 rfl ⟨⟨1, ho, by decide, by decide⟩, hv, trivial⟩ ?_
    exact V_iret D.1 rfl rfl ⟨by rw [e0]; rfl, Nat.le_refl _, rfl, fun a ha hao => by rw [xup_ne hao]; exact (f1 a ha).1, fun a ha => (f1 a ha).2, k1.kept (fun a h1 h2 => ⟨xup_ne (by omega), rfl⟩), fun _ => xup_f⟩
  · obtain ⟨e0, ecls, hz, rfl, f1, k1⟩ := P
    have ec : cls = "java/lang/IllegalArgumentException" := by rw [ecls]; unfold cs2; rw [if_pos (by omega)]
    subst ec
    refine ⟨[], (0, 10, 13, 13), [], rfl, ⟨rfl, by decide, ck13, cs13, fun y hy => nomatch hy⟩, 4, 2, Or.inl ⟨rfl, rfl⟩, by decide, ?_⟩
    refine V_run D.1 [] 16 rfl trivial ?_
    exact V_iret D.1 rfl rfl ⟨by rw [show (dOptionAt x k w).1 = 1 by omega]; rfl, hz, rfl, fun a ha hao => (f1 a ha).1, fun a ha => (f1 a ha).2, k1, fun q => absurd q e0⟩
def hL_serve : xHH := [(0, 9, 12, 13)]
theorem w_serve {p : Int} (h : DkAt T I N d x) (hx : DkOk x) (h4 : xIn p) (ho : T o = some (.inl (2, 1))) (hod : o < d ∨ d + 494 ≤ o) (hk : (dServe x p).1 ≤ 1) (hv : xIn (dServe x p).2.1) : WSpec mL_serve hL_serve 8 [.inr (.inr d), .inl p, .inr (.inr o)] z T I N 1 6 (WP z T I N d o (dServe x p)) := by
  refine WSpec_of okL_serve (by decide) (by decide) (Nat.le_of_ble_eq_true rfl) fun Γ E D => ?_
  refine V_run D.1 [] 4 rfl trivial ?_
  refine V_tryV (av := [.inl p]) (st := [.inl 0, .inr (.inr o)]) D rfl mwX9_serve rfl lkL_X9_serve (s_dServe h hx h4) h.1.1 rfl ⟨by decide, by decide⟩ (fun r z1 T1 I1 N1 P => ?_) (fun cls z1 T1 I1 N1 P => ?_)
  · obtain ⟨rfl, rfl, e0, rfl, f1, k1⟩ := P
    refine V_run D.1 [] 16 rfl ⟨⟨1, ho, by decide, by decide⟩, hv, trivial⟩ ?_
    exact V_iret D.1 rfl rfl ⟨by rw [e0]; rfl, Nat.le_refl _, rfl, fun a ha hao => by rw [xup_ne hao]; exact (f1 a ha).1, fun a ha => (f1 a ha).2, k1.kept (fun a h1 h2 => ⟨xup_ne (by omega), rfl⟩), fun _ => xup_f⟩
  · obtain ⟨e0, ecls, hz, rfl, f1, k1⟩ := P
    have ec : cls = "java/lang/IllegalArgumentException" := by rw [ecls]; unfold cs2; rw [if_pos (by omega)]
    subst ec
    refine ⟨[], (0, 9, 12, 13), [], rfl, ⟨rfl, by decide, ck13, cs13, fun y hy => nomatch hy⟩, 3, 1, Or.inr ⟨3, rfl, rfl, rfl⟩, by decide, ?_⟩
    refine V_run D.1 [] 14 rfl trivial ?_
    exact V_iret D.1 rfl rfl ⟨by rw [show (dServe x p).1 = 1 by omega]; rfl, hz, rfl, fun a ha hao => (f1 a ha).1, fun a ha => (f1 a ha).2, k1, fun q => absurd q e0⟩
def hL_total : xHH := [(0, 9, 12, 13)]
theorem w_total {w : Int} (h : DkAt T I N d x) (h4 : xIn w) (ho : T o = some (.inl (2, 1))) (hod : o < d ∨ d + 494 ≤ o) (hk : (dTotal x w).1 ≤ 1) (hv : xIn (dTotal x w).2.1) : WSpec mL_total hL_total 8 [.inr (.inr d), .inl w, .inr (.inr o)] z T I N 1 6 (WP z T I N d o (dTotal x w)) := by
  refine WSpec_of okL_total (by decide) (by decide) (Nat.le_of_ble_eq_true rfl) fun Γ E D => ?_
  refine V_run D.1 [] 4 rfl trivial ?_
  refine V_tryV (av := [.inl w]) (st := [.inl 0, .inr (.inr o)]) D rfl mwX9_total rfl lkL_X9_total (s_dTotal h h4) h.1.1 rfl ⟨by decide, by decide⟩ (fun r z1 T1 I1 N1 P => ?_) (fun cls z1 T1 I1 N1 P => ?_)
  · obtain ⟨rfl, rfl, e0, rfl, f1, k1⟩ := P
    refine V_run D.1 [] 16 rfl ⟨⟨1, ho, by decide, by decide⟩, hv, trivial⟩ ?_
    exact V_iret D.1 rfl rfl ⟨by rw [e0]; rfl, Nat.le_refl _, rfl, fun a ha hao => by rw [xup_ne hao]; exact (f1 a ha).1, fun a ha => (f1 a ha).2, k1.kept (fun a h1 h2 => ⟨xup_ne (by omega), rfl⟩), fun _ => xup_f⟩
  · obtain ⟨e0, ecls, hz, rfl, f1, k1⟩ := P
    have ec : cls = "java/lang/IllegalArgumentException" := by rw [ecls]; unfold cs2; rw [if_pos (by omega)]
    subst ec
    refine ⟨[], (0, 9, 12, 13), [], rfl, ⟨rfl, by decide, ck13, cs13, fun y hy => nomatch hy⟩, 3, 1, Or.inr ⟨3, rfl, rfl, rfl⟩, by decide, ?_⟩
    refine V_run D.1 [] 14 rfl trivial ?_
    exact V_iret D.1 rfl rfl ⟨by rw [show (dTotal x w).1 = 1 by omega]; rfl, hz, rfl, fun a ha hao => (f1 a ha).1, fun a ha => (f1 a ha).2, k1, fun q => absurd q e0⟩
def hL_resource : xHH := [(0, 10, 13, 13)]
theorem w_resource {k w : Int} (h : DkAt T I N d x) (h3 : xIn k) (h4 : xIn w) (ho : T o = some (.inl (2, 1))) (hod : o < d ∨ d + 494 ≤ o) (hk : (dResource x k w).1 ≤ 1) (hv : xIn (dResource x k w).2.1) : WSpec mL_resource hL_resource 8 [.inr (.inr d), .inl k, .inl w, .inr (.inr o)] z T I N 1 6 (WP z T I N d o (dResource x k w)) := by
  refine WSpec_of okL_resource (by decide) (by decide) (Nat.le_of_ble_eq_true rfl) fun Γ E D => ?_
  refine V_run D.1 [] 5 rfl trivial ?_
  refine V_tryV (av := [.inl k, .inl w]) (st := [.inl 0, .inr (.inr o)]) D rfl mwX9_resource rfl lkL_X9_resource (s_dResource h h3 h4) h.1.1 rfl ⟨by decide, by decide⟩ (fun r z1 T1 I1 N1 P => ?_) (fun cls z1 T1 I1 N1 P => ?_)
  · obtain ⟨rfl, rfl, e0, rfl, f1, k1⟩ := P
    refine V_run D.1 [] 18 rfl ⟨⟨1, ho, by decide, by decide⟩, hv, trivial⟩ ?_
    exact V_iret D.1 rfl rfl ⟨by rw [e0]; rfl, Nat.le_refl _, rfl, fun a ha hao => by rw [xup_ne hao]; exact (f1 a ha).1, fun a ha => (f1 a ha).2, k1.kept (fun a h1 h2 => ⟨xup_ne (by omega), rfl⟩), fun _ => xup_f⟩
  · obtain ⟨e0, ecls, hz, rfl, f1, k1⟩ := P
    have ec : cls = "java/lang/IllegalArgumentException" := by rw [ecls]; unfold cs2; rw [if_pos (by omega)]
    subst ec
    refine ⟨[], (0, 10, 13, 13), [], rfl, ⟨rfl, by decide, ck13, cs13, fun y hy => nomatch hy⟩, 4, 2, Or.inl ⟨rfl, rfl⟩, by decide, ?_⟩
    refine V_run D.1 [] 16 rfl trivial ?_
    exact V_iret D.1 rfl rfl ⟨by rw [show (dResource x k w).1 = 1 by omega]; rfl, hz, rfl, fun a ha hao => (f1 a ha).1, fun a ha => (f1 a ha).2, k1, fun q => absurd q e0⟩
end XWr
