/-! what holds of messages that were read, and of answers -/
theorem OsOk.snoc : ∀ {os : List Opt} {b n : Int} {v : List Int}, OsOk b os → (∀ q ∈ os, q.1 ≤ n) → b ≤ n → n ≤ 65535 → BsOk v → v.length ≤ 400 → OsOk b (os ++ [(n, v)])
  | [], _, _, _, _, _, h1, h2, h3, h4 => ⟨h1, h2, h3, h4, trivial⟩
  | _ :: _, _, _, _, ⟨a1, a2, a3, a4, a5⟩, h0, _, h2, h3, h4 => ⟨a1, a2, a3, a4, a5.snoc (fun q hq => h0 q (List.mem_cons_of_mem _ hq)) (h0 _ (List.mem_cons_self ..)) h2 h3 h4⟩
theorem OsOk.take : ∀ {os : List Opt} {b : Int} (n : Nat), OsOk b os → OsOk b (os.take n)
  | [], _, 0, _ => trivial
  | [], _, _ + 1, _ => trivial
  | _ :: _, _, 0, _ => trivial
  | _ :: _, _, n + 1, ⟨a1, a2, a3, a4, a5⟩ => ⟨a1, a2, a3, a4, a5.take n⟩
def sumv : List Opt → Nat
  | [] => 0
  | q :: r => q.2.length + sumv r
theorem sumv_app : ∀ (a b : List Opt), sumv (a ++ b) = sumv a + sumv b
  | [], b => by simp [sumv]
  | q :: r, b => by simp [sumv, sumv_app r b]; omega
theorem sumv_take (os : List Opt) (n : Nat) : sumv (os.take n) ≤ sumv os := by
  have h : sumv os = sumv (os.take n) + sumv (os.drop n) := by rw [← sumv_app, List.take_append_drop]
  omega
theorem pe_le : ∀ (os : List Opt), (pe (pth os)).length ≤ 2 * os.length + sumv os
  | [] => by simp [pe, pth]
  | q :: r => by
    have h := pe_le r
    have e : pth (q :: r) = pth [q] ++ pth r := pth_app [q] r
    rw [e, pe_app, List.length_append]
    have h2 : (pe (pth [q])).length ≤ 2 + q.2.length := by
      unfold pth pe
      by_cases hq : q.1 = 11
      · simp [hq, hib_len]
      · simp [hq]
    simp only [sumv, List.length_cons]
    omega
theorem BsOk.take {xs : List Int} (h : BsOk xs) (n : Nat) : BsOk (xs.take n) := fun v hv => h v (List.mem_of_mem_take hv)
theorem BsOk.drop {xs : List Int} (h : BsOk xs) (n : Nat) : BsOk (xs.drop n) := fun v hv => h v (List.mem_of_mem_drop hv)
theorem prun_ok {xs : List Int} (hx : BsOk xs) : ∀ (k p : Nat) (num : Int) (acc : List Opt) (p' : Nat) (os : List Opt), p ≤ xs.length → 0 ≤ num → num ≤ 65535 → OsOk 0 acc → (∀ q ∈ acc, q.1 ≤ num) → sumv acc ≤ p → prun xs k p num acc = some (p', os) → OsOk 0 os ∧ sumv os ≤ p' ∧ p' ≤ xs.length
  | 0, p, num, acc, p', os, h1, h2, h3, h4, h5, h6, h => by
    unfold prun at h
    cases h
    exact ⟨h4, h6, h1⟩
  | k + 1, p, num, acc, p', os, h1, h2, h3, h4, h5, h6, h => by
    unfold prun at h
    split at h
    · rename_i hp
      split at h
      · cases h
      · rename_i num' fr n hs
        have hi := pstep_in hx hp.1 hs
        refine prun_ok hx k (fr + n) num' _ p' os hi.2.2.2.2 (by omega) hi.2.1 (h4.snoc (fun q hq => by have := h5 q hq; omega) (by omega) hi.2.1 ((hx.drop fr).take n) (by simp; omega)) (fun q hq => ?_) ?_ h
        · rcases List.mem_append.mp hq with hq | hq
          · have := h5 q hq; omega
          · rw [List.mem_singleton.mp hq]; exact Int.le_refl _
        · rw [sumv_app]
          simp only [sumv, List.length_take, List.length_drop]
          omega
    · cases h
      exact ⟨h4, h6, h1⟩
/-- a message that was read -/
theorem rd_ok {xs : List Int} (hx : BsOk xs) (h : (rd xs).1 = 0) : MOk (rd xs).2 ∧ sumv (rd xs).2.2.2.2.2.1 ≤ xs.length := by
  unfold rd at h ⊢
  split at h
  · cases h
  · rename_i h1
    rw [if_neg h1]
    split at h
    · cases h
    · rename_i h2
      rw [if_neg h2]
      split at h
      · cases h
      · rename_i h3
        rw [if_neg h3]
        split at h
        · cases h
        · rename_i p os hr
          have b0 := hx _ (getD_mem (xs := xs) (j := 0) (by omega))
          have b1 := hx _ (getD_mem (xs := xs) (j := 1) (by omega))
          have b2 := hx _ (getD_mem (xs := xs) (j := 2) (by omega))
          have b3 := hx _ (getD_mem (xs := xs) (j := 3) (by omega))
          obtain ⟨k1, k2, k3⟩ := prun_ok hx _ _ _ ([] : List Opt) _ _ (by omega) (by omega) (by omega) trivial (fun _ h => nomatch h) (by simp [sumv]) hr
          unfold rdE at h ⊢
          split at h
          · cases h
          · rename_i h4
            rw [if_neg h4]
            split at h
            · cases h
            · rename_i h5
              rw [if_neg h5]
              refine ⟨⟨by dsimp only; omega, by dsimp only; omega, by dsimp only; omega, ⟨(hx.drop 4).take _, by dsimp only; rw [List.length_take, List.length_drop]; omega⟩, k1, ?_, ?_⟩, by dsimp only; omega⟩
              · unfold rdP
                split
                · exact hx.drop _
                · exact fun _ h => nomatch h
              · unfold rdP at h4 ⊢
                by_cases hp : p < xs.length
                · rw [if_pos hp] at h4 ⊢
                  dsimp only
                  omega
                · rw [if_neg hp]; simp
def ROk (x : Res) : Prop := (0 ≤ x.2.2 ∧ x.2.2 ≤ 65535) ∧ BsOk x.2.1 ∧ x.2.1.length ≤ 400 ∧ x.1.length ≤ 20 ∧ ∀ v ∈ x.1, BsOk v ∧ v.length ≤ 400
def AOk (x : Int × List Opt × List Int) : Prop := (64 ≤ x.1 ∧ x.1 ≤ 255) ∧ OsOk 0 x.2.1 ∧ BsOk x.2.2 ∧ x.2.2.length ≤ 400 ∧ x.2.1.length ≤ 2 ∧ (wos 0 x.2.1).length ≤ 8
theorem BsOk.nil : BsOk [] := fun _ h => nomatch h
theorem AOk.no {c : Int} (h : 64 ≤ c ∧ c ≤ 255) : AOk (c, [], []) := ⟨h, trivial, BsOk.nil, by simp, by simp, by simp [wos]⟩
theorem AOk.tag {c t : Int} {v : List Int} (h : 64 ≤ c ∧ c ≤ 255) (hv : BsOk v) (hl : v.length ≤ 400) : AOk (c, [(4, hib t 2)], v) := by
  refine ⟨h, ⟨show (0 : Int) ≤ 4 by decide, show (4 : Int) ≤ 65535 by decide, hib_rng _ _, by rw [hib_len]; omega, trivial⟩, hv, hl, by simp, ?_⟩
  simp only [wos, List.append_nil, wo_len, hib_len]
  decide
theorem AOk.blk {c t x : Int} {v : List Int} {f : Nat} (h : 64 ≤ c ∧ c ≤ 255) (hv : BsOk v) (hl : v.length ≤ 400) (hf : f ≤ 3) : AOk (c, [(4, hib t 2), (23, hib x f)], v) := by
  refine ⟨h, ⟨show (0 : Int) ≤ 4 by decide, show (4 : Int) ≤ 65535 by decide, hib_rng _ _, by rw [hib_len]; omega, show (4 : Int) ≤ 23 by decide, show (23 : Int) ≤ 65535 by decide, hib_rng _ _, by rw [hib_len]; omega, trivial⟩, hv, hl, by simp, ?_⟩
  simp only [wos, List.append_nil, List.length_append, wo_len, hib_len]
  have e1 : mb (4 - 0) = 0 := by decide
  have e2 : mb (23 - 4) = 1 := by decide
  have e3 : mb ((2 : Nat) : Int) = 0 := by decide
  have e4 : mb (f : Int) = 0 := by unfold mb; rw [if_pos (by omega)]
  rw [e1, e2, e3, e4]
  omega
theorem blk_ok {x : Int} {w : Res} (hw : ROk w) (hx : 0 ≤ x ∧ x ≤ 1048575 ∧ x % 8 ≤ 6) : AOk (blk x w) := by
  unfold blk
  split
  · exact AOk.no (by decide)
  · have hb : 0 ≤ blT x w.2.1.length ∧ blT x w.2.1.length < 16777216 := by unfold blT; split <;> omega
    have hf := fwb_cases hb.1
    have hl := hw.2.2.1
    refine AOk.blk (by decide) ((hw.2.1.drop _).take _) ?_ (by omega)
    simp only [List.length_take, List.length_drop]
    omega
theorem getA_ok {os : List Opt} {w : Res} (hw : ROk w) (hb : hBad os = false) (hv : ∀ q ∈ os, BsOk q.2) : AOk (getA os w) := by
  unfold getA
  split
  · exact AOk.tag (by decide) BsOk.nil (by simp)
  · split
    · rename_i h
      exact blk_ok hw (hBad_23 hb hv h (fi_at h))
    · split
      · exact blk_ok hw (by decide)
      · exact AOk.tag (by decide) hw.2.1 hw.2.2.1
theorem pth_ok {os : List Opt} (h : OsOk 0 os) : ∀ v ∈ pth os, BsOk v ∧ v.length ≤ 400 := by
  intro v hv
  unfold pth at hv
  rw [List.mem_map] at hv
  obtain ⟨q, hq, e⟩ := hv
  have := h.mem (by omega) q (List.mem_filter.mp hq).1
  rw [← e]
  exact this.2.2
theorem rsd_mem {rs : List Res} {k : Nat} (h : k < rs.length) : rsd rs k ∈ rs := by rw [rsd_get h]; exact List.getElem_mem _
theorem set_ok {rs : List Res} (h : ∀ x ∈ rs, ROk x) {k : Nat} {y : Res} (hy : ROk y) : ∀ x ∈ rs.set k y, ROk x := by
  intro x hx
  rcases List.mem_or_eq_of_mem_set hx with h1 | h1
  · exact h x h1
  · rw [h1]; exact hy
theorem actK_ok {k : Nat} {rs : List Res} {tags : Int} {g : Msg} (h : ∀ x ∈ rs, ROk x) (hl : rs.length ≤ 16) (ht : 0 ≤ tags ∧ tags ≤ 65535) (hok : MOk g) (hos : g.2.2.2.2.1.length ≤ 20) : AOk (actK k rs tags g).1 ∧ (∀ x ∈ (actK k rs tags g).2.1, ROk x) ∧ (actK k rs tags g).2.1.length ≤ 16 ∧ 0 ≤ (actK k rs tags g).2.2 ∧ (actK k rs tags g).2.2 ≤ 65535 := by
  have hp := pth_ok hok.2.2.2.2.1
  have hpl := pth_len_le g.2.2.2.2.1
  unfold actK
  by_cases h1 : hBad g.2.2.2.2.1 = true
  · rw [if_pos h1]; exact ⟨AOk.no (by decide), h, hl, ht⟩
  rw [if_neg h1]
  by_cases h2 : 4 < g.2.1
  · rw [if_pos h2]; exact ⟨AOk.no (by decide), h, hl, ht⟩
  rw [if_neg h2]
  by_cases h3 : g.2.1 = 1
  · rw [if_pos h3]
    refine ⟨?_, h, hl, ht⟩
    dsimp only
    by_cases hk : k < rs.length
    · rw [if_pos hk]
      exact getA_ok (h _ (rsd_mem hk)) (by simpa using h1) (fun q hq => (hok.2.2.2.2.1.mem (by omega) q hq).2.2.1)
    · rw [if_neg hk]; exact AOk.no (by decide)
  rw [if_neg h3]
  generalize (if k < rs.length then some (rsd rs k).2.2 else none) = o4
  by_cases h4 : fails g.2.2.2.2.1 o4 = true
  · rw [if_pos h4]; exact ⟨AOk.no (by decide), h, hl, ht⟩
  rw [if_neg h4]
  by_cases h5 : g.2.1 = 2
  · rw [if_pos h5]
    by_cases hk : k < rs.length
    · rw [if_pos hk]
      have hx := h _ (rsd_mem hk)
      by_cases hf : (rsd rs k).2.1.length + g.2.2.2.2.2.length ≤ 400
      · rw [if_pos hf]
        refine ⟨AOk.tag (by decide) BsOk.nil (by simp), set_ok h ⟨by dsimp only; omega, fun v hv => ?_, by simpa using hf, hx.2.2.2⟩, by simpa using hl, by dsimp only; omega, by dsimp only; omega⟩
        rcases List.mem_append.mp hv with h5 | h5
        · exact hx.2.1 v h5
        · exact hok.2.2.2.2.2.1 v h5
      · rw [if_neg hf]; exact ⟨AOk.no (by decide), h, hl, ht⟩
    · rw [if_neg hk]; exact ⟨AOk.no (by decide), h, hl, ht⟩
  rw [if_neg h5]
  by_cases h6 : g.2.1 = 3
  · rw [if_pos h6]
    by_cases hk : k < rs.length
    · rw [if_pos hk]
      have hx := h _ (rsd_mem hk)
      exact ⟨AOk.tag (by decide) BsOk.nil (by simp), set_ok h ⟨by dsimp only; omega, hok.2.2.2.2.2.1, hok.2.2.2.2.2.2, hx.2.2.2⟩, by simpa using hl, by dsimp only; omega, by dsimp only; omega⟩
    · rw [if_neg hk]
      by_cases hl2 : rs.length < 16
      · rw [if_pos hl2]
        refine ⟨AOk.tag (by decide) BsOk.nil (by simp), fun x hx => ?_, by simp; omega, by dsimp only; omega, by dsimp only; omega⟩
        rcases List.mem_append.mp hx with h5 | h5
        · exact h x h5
        · rw [List.mem_singleton.mp h5]
          exact ⟨by dsimp only; omega, hok.2.2.2.2.2.1, hok.2.2.2.2.2.2, by dsimp only; omega, hp⟩
      · rw [if_neg hl2]; exact ⟨AOk.no (by decide), h, hl, ht⟩
  rw [if_neg h6]
  refine ⟨AOk.no (by decide), ?_, ?_, ht⟩
  · dsimp only
    by_cases hk : k < rs.length
    · rw [if_pos hk]; exact fun x hx => h x (List.mem_of_mem_eraseIdx hx)
    · rw [if_neg hk]; exact h
  · dsimp only
    by_cases hk : k < rs.length
    · rw [if_pos hk, List.length_eraseIdx]; split <;> omega
    · rw [if_neg hk]; exact hl
