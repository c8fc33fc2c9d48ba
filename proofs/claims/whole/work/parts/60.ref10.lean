section XRef10
variable {Γ : xG} {E : xE} {M : xM} {z : Nat} {T : xY} {I J : xI} {N : xN} {y m lev mc ms ce sl pc idx i p : Nat} {os : List Opt} {g : Msg} {x : Dk} {xs : List Int} {Q : State → Prop} {lv : xL} {q : Opt}
theorem ftP.bad {c : Int} (e : (rd xs).1 = -c) (hc : 0 < c) (hf : Fr (Fx y) I J) (hb : J y 15 = 0 ∨ J y 15 = 1) : ftP z T N I y xs (some (.inl c)) z T J N := ⟨rfl, rfl, rfl, by rw [e, Int.neg_neg], hf, hb, fun h0 => absurd h0 (by rw [e]; omega)⟩
theorem HH.fx (h : HH I y xs) (hf : Fr (Fx y) I J) : HH J y xs := h.kept (hf _ _ (by unfold Fx Mb Ob; omega)) (fun k _ => hf _ _ (by unfold Fx Mb Ob; omega))
theorem b15 {n : Nat} {v : Int} (h : v = (if 20 < n then 1 else 0)) : v = 0 ∨ v = 1 := by rw [h]; split; exact Or.inr rfl; exact Or.inl rfl
set_option maxRecDepth 8000 in
theorem lf_out {ty co id : Int} {tok : List Int} {n1 num : Int} {acc : List Opt} (D : xD Γ E mX10_fault 1 0 0) (h : MdS T N y) (hH : HH I y xs) (hp : p ≤ xs.length) (hrd : rd xs = rdE xs p acc) (hg : ty = xs.getD 0 0 / 16 % 4 ∧ co = xs.getD 1 0 ∧ id = 256 * xs.getD 2 0 + xs.getD 3 0 ∧ tok = (xs.drop 4).take (xs.getD 0 0 % 16).toNat) (hco : 0 ≤ co ∧ co < 256)
    (hf : Fr (Fx y) I J) (ht : J y 15 = (if 20 < acc.length then 1 else 0)) (hM : MM J y 1 (ty, co, id, tok, acc.take 20, [])) (hok : MOk (ty, co, id, tok, acc.take 20, [])) :
    V Γ E (xQ Γ E (ftP z T N I y xs) 0 0) z T J N 0 0 362 (xlv [some (.inr (.inr y)), some (.inl n1), some (.inl (p : Int)), some (.inl num)]) [] := by
  have hl20 : (acc.take 20).length ≤ 20 := by simp; omega
  have fin : ∀ (J2 : xI) (pay : List Int) (lv : xL), lv 0 = some (.inr (.inr y)) → Fr (Fx y) I J2 → J2 y 15 = (if 20 < acc.length then 1 else 0) → MM J2 y 1 (ty, co, id, tok, acc.take 20, pay) → ¬ (p < xs.length ∧ ((rdP xs p).length = 0 ∨ (rdP xs p).length > 400)) → pay = rdP xs p →
      V Γ E (xQ Γ E (ftP z T N I y xs) 0 0) z T J2 N 0 0 441 lv [] := fun J2 pay lv l0 f2 t2 m2 hno hpay => by
    have hH2 := hH.fx f2
    have h1 := hH2.1.1
    have h2 := hH2.1.2.1
    unfold rdE at hrd
    rw [if_neg hno] at hrd
    refine V_lv (lv' := xlv [some (.inr (.inr y))]) (fun j v hj => by match j, hj with | 0, hj => exact l0.trans hj) ?_
    refine V_run D [] 447 rfl ⟨h.a2 (by omega), h.1, trivial⟩ ?_
    rw [h.n2, show ((1 : Int)).toNat = 1 from rfl, m2.1.2.1]
    show V _ _ _ _ _ _ _ _ _ _ _ (Sum.inl co :: _)
    have good : ¬ (co = 0 ∧ xs.length > 4) → V Γ E (xQ Γ E (ftP z T N I y xs) 0 0) z T J2 N 0 0 463 (xlv [some (.inr (.inr y))]) [] := fun hne => by
      rw [if_neg (by rw [← hg.2.1]; exact hne)] at hrd
      refine V_run D [] 464 rfl trivial ?_
      refine V_iret D rfl rfl ⟨rfl, rfl, rfl, by rw [hrd]; rfl, f2, b15 t2, fun _ => ?_⟩
      rw [hrd]
      refine ⟨?_, fun hle => ?_⟩
      · rw [t2]; dsimp only; split <;> omega
      · dsimp only at hle ⊢
        rw [List.take_of_length_le hle, hg.1, hg.2.1, hg.2.2.1, hg.2.2.2, hpay] at m2
        exact m2
    refine V_ne D 463 rfl rfl (by omega) (fun q1 => good (fun h => q1 h.1)) (fun q1 => ?_)
    refine V_run D [] 455 rfl ⟨h.1, trivial⟩ ?_
    rw [h1]
    refine V_ile D 463 rfl rfl (by omega) (by omega) (fun q2 => good (fun h => by omega)) (fun q2 => ?_)
    refine V_run D [] 464 rfl trivial ?_
    rw [if_pos (by rw [← hg.2.1]; omega)] at hrd
    exact V_iret D rfl rfl (ftP.bad (by rw [hrd]) (by omega) f2 (b15 t2))
  have hHJ := hH.fx hf
  obtain ⟨⟨h1, h2, h3⟩, h4⟩ := _root_.id hHJ
  refine V_run D [] 367 rfl ⟨h.1, trivial⟩ ?_
  rw [h1]
  refine V_ige D 441 rfl rfl (by omega) (by omega) (fun c1 => ?_) (fun c1 => ?_)
  · exact fin J [] _ rfl hf ht hM (by omega) (by unfold rdP; rw [if_neg (by omega)])
  have hrl : (rdP xs p).length = xs.length - p - 1 := by unfold rdP; rw [if_pos (by omega)]; simp; omega
  have bad : ((rdP xs p).length = 0 ∨ (rdP xs p).length > 400) → ∀ lv, V Γ E (xQ Γ E (ftP z T N I y xs) 0 0) z T J N 0 0 393 lv [] := fun hc lv => by
    refine V_run D [] 394 rfl trivial ?_
    refine V_iret D rfl rfl (ftP.bad ?_ (by omega) hf (b15 ht))
    rw [hrd]; unfold rdE; rw [if_pos ⟨by omega, hc⟩]
  refine V_run D [] 382 rfl ⟨h.1, trivial⟩ ?_
  rw [h1, show (xs.length : Int) - (p : Int) - 1 = ((xs.length - p - 1 : Nat) : Int) by omega]
  refine V_eq D 393 rfl rfl (by omega) (fun c2 => bad (by omega) _) (fun c2 => ?_)
  refine V_run D [] 390 rfl trivial ?_
  refine V_ile D 395 rfl rfl (by omega) (by omega) (fun c3 => ?_) (fun c3 => bad (by omega) _)
  refine V_run D [406] 406 rfl ⟨h.a10 (by omega), h.1, trivial⟩ ?_
  rw [h.n10, show ((1 : Int)).toNat = 1 from rfl]
  generalize hle : xs.length - p - 1 = le at *
  generalize hJ1 : xup J (y + 10) 1 (le : Int) = J1
  have j12 : ∀ k, J1 (y + 12) k = J (y + 12) k := fun k => by rw [← hJ1]; (simp only [xup_ap, true_and, and_true, if_true, if_false]; repeat (first | rw [if_neg (by omega)] | rw [if_pos (by omega)]))
  rw [← cpy_0 J1 (y + 11) 400 (fun k => J1 (y + 12) (p + 1 + k))]
  refine V_loc [some (.inr (.inr y)), some (.inl n1), some (.inl (p : Int)), some (.inl num), some (.inl (le : Int)), some (.inl ((0 : Nat) : Int))] rfl ?_
  refine xdn (P := fun k => V Γ E (xQ Γ E (ftP z T N I y xs) 0 0) z T (cpy J1 (y + 11) 400 (fun k => J1 (y + 12) (p + 1 + k)) k) N 0 0 406 (xlv [some (.inr (.inr y)), some (.inl n1), some (.inl (p : Int)), some (.inl num), some (.inl (le : Int)), some (.inl (k : Int))]) []) le ?_ (fun k hk ih => ?_)
  · refine V_run D [] 410 rfl trivial ?_
    refine V_ige D 441 rfl rfl (by omega) (by omega) (fun _ => ?_) (fun q => absurd q (by omega))
    have k0 : ∀ a k, ¬ (a = y + 10 ∧ k = 1) → ¬ (a = y + 11 ∧ 400 ≤ k ∧ k < 800) → cpy J1 (y + 11) 400 (fun k => J1 (y + 12) (p + 1 + k)) le a k = J a k := fun a k q1 q2 => by
      rw [cpy_out (by omega), ← hJ1, xup_ap, if_neg q1]
    obtain ⟨⟨a1, a2, a3⟩, ⟨b1, b2⟩, c, d1, d2⟩ := hM
    refine fin _ (rdP xs p) _ rfl (fun a k q => ?_) ?_ ⟨⟨?_, ?_, ?_⟩, ⟨?_, ?_⟩, ?_, ?_, ?_⟩ (by omega) rfl
    · rw [k0 a k (fun r => q (by unfold Fx Mb; omega)) (fun r => q (by unfold Fx Mb; omega))]; exact hf a k q
    · rw [k0 _ _ (by omega) (by omega)]; exact ht
    · rw [k0 _ _ (by omega) (by omega)]; exact a1
    · rw [k0 _ _ (by omega) (by omega)]; exact a2
    · rw [k0 _ _ (by omega) (by omega)]; exact a3
    · rw [k0 _ _ (by omega) (by omega)]; exact b1
    · exact b2.kept (fun j _ => k0 _ _ (by omega) (by omega))
    · exact c.kept (OL_of hok.2.2.2.2.1 (Int.le_refl _)) (by dsimp only; omega) (fun a k q => k0 a k (by unfold Ob at q; omega) (by unfold Ob at q; omega))
    · rw [cpy_out (by omega), ← hJ1]; dsimp only; rw [hrl]; (simp only [xup_ap, true_and, and_true, if_true, if_false]; repeat (first | rw [if_neg (by omega)] | rw [if_pos (by omega)]))
    · intro j hj
      dsimp only at hj ⊢
      rw [hrl] at hj
      rw [Nat.mul_one, cpy_in hj, j12]
      have := h4 (p + 1 + j) (by omega)
      rw [Nat.zero_add] at this
      rw [this]
      unfold rdP
      rw [if_pos (by omega), List.getD_eq_getElem?_getD, List.getD_eq_getElem?_getD, List.getElem?_drop]
  · refine V_run D [] 410 rfl trivial ?_
    refine V_ige D 441 rfl rfl (by omega) (by omega) (fun q => absurd q (by omega)) (fun _ => ?_)
    refine V_run D [406] 406 rfl ⟨h.a11 (by omega), h.a12 (by omega), h.1, h.1, trivial⟩ ?_
    rw [h.n11, h.n12, show ((400 : Int) + (k : Int)).toNat = 400 + k by omega, show ((p : Int) + 1 + (k : Int)).toNat = p + 1 + k by omega, cpy_out (by omega)]
    have st := cpy_step J1 (y + 11) 400 (fun k => J1 (y + 12) (p + 1 + k)) k
    rw [st]
    exact V_loc [some (.inr (.inr y)), some (.inl n1), some (.inl (p : Int)), some (.inl num), some (.inl (le : Int)), some (.inl ((k + 1 : Nat) : Int))] rfl ih
set_option maxRecDepth 8000 in
theorem lf_loop {p0 : Nat} {ty co id : Int} {tok : List Int} {n1 : Int} (D : xD Γ E mX10_fault 1 0 0) (h : MdS T N y) (hH : HH I y xs)
    (hrd : rd xs = match prun xs xs.length p0 0 [] with
      | none => (-4, 0, 0, 0, [], [], [])
      | some (p, os) => rdE xs p os)
    (hg : ty = xs.getD 0 0 / 16 % 4 ∧ co = xs.getD 1 0 ∧ id = 256 * xs.getD 2 0 + xs.getD 3 0 ∧ tok = (xs.drop 4).take (xs.getD 0 0 % 16).toNat) (hm : (0 ≤ ty ∧ ty ≤ 3) ∧ (0 ≤ co ∧ co ≤ 255) ∧ (0 ≤ id ∧ id ≤ 65535) ∧ BsOk tok ∧ tok.length ≤ 8) :
    ∀ (k p : Nat) (num : Int) (acc : List Opt) (J : xI), xs.length ≤ p + k → p ≤ xs.length → prun xs xs.length p0 0 [] = prun xs k p num acc → 0 ≤ num ∧ num ≤ 65535 → OsOk 0 acc → (∀ q ∈ acc, q.1 ≤ num) →
      Fr (Fx y) I J → J y 15 = (if 20 < acc.length then 1 else 0) → MM J y 1 (ty, co, id, tok, acc.take 20, []) →
      V Γ E (xQ Γ E (ftP z T N I y xs) 0 0) z T J N 0 0 139 (xlv [some (.inr (.inr y)), some (.inl n1), some (.inl (p : Int)), some (.inl num)]) [] := by
  intro k
  induction k with
  | zero =>
    intro p num acc J hk hp hpr hnum hos hle hf ht hM
    have h1 := (hH.fx hf).1.1
    have h2 := hH.1.2.1
    rw [hpr] at hrd
    dsimp only [prun] at hrd
    refine V_run D [] 144 rfl ⟨h.1, trivial⟩ ?_
    rw [h1]
    refine V_ige D 362 rfl rfl (by omega) (by omega) (fun _ => ?_) (fun c => absurd c (by omega))
    exact lf_out D h hH hp hrd hg (by omega) hf ht hM ⟨hm.1, hm.2.1, hm.2.2.1, hm.2.2.2, hos.take 20, BsOk.nil, by simp⟩
  | succ k ih =>
    intro p num acc J hk hp hpr hnum hos hle hf ht hM
    have hHJ := hH.fx hf
    obtain ⟨⟨h1, h2, h3⟩, h4⟩ := _root_.id hHJ
    have out : ¬ (p < xs.length ∧ ¬ xs.getD p 0 = 255) → V Γ E (xQ Γ E (ftP z T N I y xs) 0 0) z T J N 0 0 362 (xlv [some (.inr (.inr y)), some (.inl n1), some (.inl (p : Int)), some (.inl num)]) [] := fun hstop => by
      have hpe : prun xs (k + 1) p num acc = some (p, acc) := by unfold prun; rw [if_neg hstop]
      rw [hpr, hpe] at hrd
      exact lf_out D h hH hp hrd hg (by omega) hf ht hM ⟨hm.1, hm.2.1, hm.2.2.1, hm.2.2.2, hos.take 20, BsOk.nil, by simp⟩
    refine V_run D [] 144 rfl ⟨h.1, trivial⟩ ?_
    rw [h1]
    refine V_ige D 362 rfl rfl (by omega) (by omega) (fun c1 => out (by omega)) (fun c1 => ?_)
    have r0 := h4 p (by omega)
    rw [Nat.zero_add] at r0
    have hb := h3 _ (getD_mem (xs := xs) (j := p) (by omega))
    refine V_run D [] 156 rfl ⟨h.a12 (by omega), h.1, trivial⟩ ?_
    rw [h.n12, Int.toNat_natCast, r0]
    refine V_ieq D 362 rfl rfl (by omega) (by omega) (fun c2 => out (by omega)) (fun c2 => ?_)
    have hpe : prun xs (k + 1) p num acc = match pstep xs p num with
        | none => none
        | some (num', fr, n) => prun xs k (fr + n) num' (acc ++ [(num', (xs.drop fr).take n)]) := by
      conv => lhs; unfold prun
      rw [if_pos (by omega)]
      rfl
    refine lf_arith D h hHJ (by omega) hnum (fun hnone lv => ?_) (fun num' fr n hsome => ?_)
    · rw [hpr, hpe, hnone] at hrd
      refine V_run D [] 288 rfl trivial ?_
      exact V_iret D rfl rfl (ftP.bad (by rw [hrd]) (by omega) hf (b15 ht))
    · have hin := pstep_in h3 (by omega) hsome
      rw [hsome] at hpe
      have hos' : OsOk 0 (acc ++ [(num', (xs.drop fr).take n)]) := hos.snoc (fun q hq => by have := hle q hq; omega) (by omega) (by omega) ((h3.drop fr).take n) (by simp; omega)
      have next : ∀ (J' : xI) (lv : xL), (∀ j v, xlv [some (.inr (.inr y)), some (.inl n1), none, some (.inl num'), none, none, none, some (.inl (fr : Int)), some (.inl ((n : Nat) : Int))] j = some v → lv j = some v) → Fr (Fx y) I J' → J' y 15 = (if 20 < acc.length + 1 then 1 else 0) → MM J' y 1 (ty, co, id, tok, (acc ++ [(num', (xs.drop fr).take n)]).take 20, []) → V Γ E (xQ Γ E (ftP z T N I y xs) 0 0) z T J' N 0 0 353 lv [] := fun J' lv hlv f' t' m' => by
        refine V_lv hlv ?_
        refine V_run D [139] 139 rfl trivial ?_
        rw [show ((fr : Int) + ((n : Nat) : Int)) = ((fr + n : Nat) : Int) by omega]
        refine V_loc [some (.inr (.inr y)), some (.inl n1), some (.inl ((fr + n : Nat) : Int)), some (.inl num')] rfl ?_
        exact ih (fr + n) num' _ J' (by omega) (by omega) (by rw [hpr, hpe]) (by omega) hos' (fun q hq => by
          rcases List.mem_append.mp hq with r | r
          · have := hle q r; omega
          · rw [List.mem_singleton.mp r]; exact Int.le_refl _) f' (by rw [List.length_append]; exact t') m'
      have e6 := hM.2.2.1.1
      dsimp only at e6
      refine V_run D [] 302 rfl ⟨h.a6 (by omega), h.1, trivial⟩ ?_
      rw [h.n6, show ((1 : Int)).toNat = 1 from rfl, e6, show num + (num' - num) = num' by omega]
      have hl20 : (acc.take 20).length ≤ 20 := by simp; omega
      refine V_ine D 313 rfl rfl (by omega) (by omega) (fun c3 => ?_) (fun c3 => ?_)
      · have hlt : acc.length < 20 := by
          rw [List.length_take] at c3; omega
        have ht20 : acc.take 20 = acc := List.take_of_length_le (by omega)
        have hO := hM.2.2.1
        dsimp only at hO
        rw [ht20] at hO
        refine V_loc [some (.inr (.inr y)), some (.inl n1), some (.inl (p : Int)), some (.inl num'), some (.inl (xs.getD p 0 / 16)), some (.inl (xs.getD p 0 % 16)), some (.inl (num' - num)), some (.inl (fr : Int)), some (.inl ((n : Nat) : Int))] rfl ?_
        refine lf_put D h hHJ (by omega) (by omega) (by omega) hO (OL_of hos (Int.le_refl _)) hlt (fun q hq => by have := hle q hq; omega) (fun J' f' o' lv hlv => ?_)
        refine next J' lv hlv (hf.trans (f'.wide (fun a k q => Or.inl (Or.inr (Or.inr (Or.inl q)))))) ?_ ?_
        · rw [f' _ _ (by unfold Ob; omega), ht, if_neg (by omega), if_neg (by omega)]
        · rw [List.take_of_length_le (by simp; omega)]
          exact hM.setO f' o'
      · have hge : 20 ≤ acc.length := by
          rw [List.length_take] at c3; omega
        refine V_run D [353] 353 rfl ⟨⟨h.1, Or.inr rfl⟩, trivial⟩ ?_
        refine next (xup J y 15 1) _ (fun j v hj => ?_) (fun a k q => ?_) ?_ ?_
        · match j, hj with
          | 0, hj => exact hj
          | 1, hj => exact hj
          | 2, hj => cases hj
          | 3, hj => exact hj
          | 4, hj => cases hj
          | 5, hj => cases hj
          | 6, hj => cases hj
          | 7, hj => exact hj
          | 8, hj => exact hj
        · rw [xup_ap, if_neg (fun r => q (Or.inr r))]; exact hf a k q
        · rw [xup_ap, if_pos ⟨rfl, rfl⟩, if_pos (by omega)]
        · rw [List.take_append_of_le_length hge]
          exact hM.kept ⟨hm.1, hm.2.1, hm.2.2.1, hm.2.2.2, hos.take 20, BsOk.nil, by simp⟩ hl20 (fun a k q => by unfold Mb Ob at q; rw [xup_ap, if_neg (by omega)])
end XRef10
