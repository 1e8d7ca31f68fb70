/-! what a roll leaves as it was; floors that hold the same roll alike -/
def kpR (F G : Nat → Nat → Int32) (e : Nat) : Prop := G 4 = F 4 ∧ G 5 = F 5 ∧ (∀ j, j ≠ e → G 2 j = F 2 j ∧ G 3 j = F 3 j) ∧ G 2 e ≠ 0
theorem kpR_0 (F : Nat → Nat → Int32) (e : Nat) : kpR F (setF F 2 e 8) e := by
  refine ⟨setF_r (by decide), setF_r (by decide), fun j hj => ⟨by rw [setF_e, if_neg hj], by rw [setF_r (by decide)]⟩, ?_⟩
  rw [setF_e, if_pos rfl]
  decide
theorem kpR_1 (F : Nat → Nat → Int32) (e t : Nat) {s : Nat} (v : Int32) (hs : s < 100) : kpR F (setF (setF F 2 e (nI (s + 1))) 6 t v) e := by
  refine ⟨by rw [setF_r (by decide), setF_r (by decide)], by rw [setF_r (by decide), setF_r (by decide)], fun j hj => ⟨by rw [setF_r (by decide), setF_e, if_neg hj], by rw [setF_r (by decide), setF_r (by decide)]⟩, ?_⟩
  rw [setF_r (by decide), setF_e, if_pos rfl]
  exact nI_ne0 (by omega) (by omega)
theorem kpR_2 {F G : Nat → Nat → Int32} {e : Nat} {v : Int32} (h : kpR (setF F 3 e v) G e) : kpR F G e := by
  obtain ⟨h1, h2, h3, h4⟩ := h
  rw [setF_r (by decide)] at h1 h2
  refine ⟨h1, h2, fun j hj => ?_, h4⟩
  have := h3 j hj
  rw [setF_r (by decide), setF_e, if_neg hj] at this
  exact this
theorem pRoll_keep {K Sk Rm : Nat → Int32} {ns ne e : Nat} (h5 : ns ≤ 5) : ∀ m k F, k + m ≤ ns → (∀ j, j < ns → ∃ w, w < ns ∧ F 5 j = nI w) → kpR F (pRoll K Sk Rm ne e m k F).2 e
  | 0, _, F, _, _ => kpR_0 F e
  | m + 1, k, F, h, hR => by
    obtain ⟨s, hs, hRk⟩ := hR k (by omega)
    have hi := kpR_2 (pRoll_keep (K := K) (Sk := Sk) (Rm := Rm) (ne := ne) (e := e) h5 m (k + 1) (setF F 3 e (pLeak (K e) (F 3 e))) (by omega) (fun j hj => by rw [setF_r (by decide)]; exact hR j hj))
    rw [pRoll]
    split
    · exact hi
    · split
      · rw [hRk, nI_1]
        exact kpR_1 F e _ _ (by omega)
      · exact hi
theorem sameF_set {F G : Nat → Nat → Int32} {r j : Nat} {v : Int32} (h : sameF F G) : sameF (setF F r j v) (setF G r j v) := by
  have g : ∀ q k, F q k = G q k → setF F r j v q k = setF G r j v q k := fun q k e => by
    by_cases hq : q = r
    · subst hq; rw [setF_e, setF_e, e]
    · rw [setF_r hq, setF_r hq, e]
  exact ⟨fun k hk => ⟨g 2 k (h.1 k hk).1, g 3 k (h.1 k hk).2⟩, fun k hk => ⟨g 4 k (h.2 k hk).1, g 5 k (h.2 k hk).2.1, g 6 k (h.2 k hk).2.2⟩⟩
theorem pEn_congr {w w' : Nat → Int32} {a : Int32} : ∀ {n : Nat}, (∀ e, e < n → w e = w' e) → pEn w a n = pEn w' a n
  | 0, _ => rfl
  | n + 1, h => by rw [pEn, pEn, pEn_congr (fun e he => h e (by omega)), h n (by omega)]
theorem pRoll_same {K Sk Rm : Nat → Int32} {ns ne e : Nat} (h5 : ns ≤ 5) (h6 : ne ≤ 6) (he : e < 6) : ∀ m k F G, k + m ≤ ns → (∀ j, j < ns → ∃ w, w < ns ∧ G 5 j = nI w) → sameF F G → sameF (pRoll K Sk Rm ne e m k F).2 (pRoll K Sk Rm ne e m k G).2
  | 0, _, F, G, _, _, h => by rw [pRoll, pRoll]; exact sameF_set h
  | m + 1, k, F, G, hk, hR, h => by
    obtain ⟨s, hs, hRk⟩ := hR k (by omega)
    have e5 : F 5 k = nI s := by rw [(h.2 k (by omega)).2.1]; exact hRk
    have cs : (nI s).toNatClampNeg = s := nI_clamp (by omega)
    have hs5 : s < 5 := by omega
    have e3 : F 3 e = G 3 e := (h.1 e he).2
    have e6 : F 6 s = G 6 s := (h.2 s hs5).2.2
    have e4 : F 4 s = G 4 s := (h.2 s hs5).1
    have hful : pFull Rm (F 2) ne s = pFull Rm (G 2) ne s := by
      unfold pFull
      rw [pEn_congr (w := F 2) (w' := G 2) (fun j hj => (h.1 j (by omega)).1)]
    have hi := pRoll_same (K := K) (Sk := Sk) (Rm := Rm) h5 h6 he m (k + 1) (setF F 3 e (pLeak (K e) (F 3 e))) (setF G 3 e (pLeak (K e) (F 3 e))) (by omega) (fun j hj => by rw [setF_r (by decide)]; exact hR j hj) (sameF_set h)
    rw [pRoll, pRoll, e5, hRk, cs, e6, e4, hful, ← e3]
    split
    · exact hi
    · split
      · exact sameF_set (sameF_set h)
      · exact hi
theorem pB_same {A A' R R' : Nat → Int32} {w : Int32} {ns : Nat} (h5 : ns ≤ 5) (hR : ∀ k, k < ns → ∃ j, j < ns ∧ R' k = nI j) (hA : ∀ k, k < 5 → A k = A' k) (hRR : ∀ k, k < 5 → R k = R' k) : ∀ m k, k + m ≤ ns → pB A R w m k = pB A' R' w m k
  | 0, _, _ => rfl
  | m + 1, k, h => by
    obtain ⟨j, hj, e⟩ := hR k (by omega)
    rw [pB, pB, hRR k (by omega), e, nI_clamp (by omega), hA j (by omega), pB_same h5 hR hA hRR m (k + 1) (by omega)]
theorem pRw_same {F G : Nat → Nat → Int32} {ns e : Nat} (h5 : ns ≤ 5) (he : e < 6) (hR : ∀ j, j < ns → ∃ w, w < ns ∧ G 5 j = nI w) (h : sameF F G) : pRw F ns e = pRw G ns e := by
  have hb : pBe F ns e = pBe G ns e := by
    unfold pBe
    rw [(h.1 e he).2]
    exact pB_same h5 hR (fun k hk => (h.2 k hk).1) (fun k hk => (h.2 k hk).2.1) ns 0 (by omega)
  unfold pRw pTo
  rw [hb, (h.1 e he).1]
/-! how many eggs are right -/
def cEg (w : Nat → Int32) (a : Int32) : Nat → Nat
  | 0 => 0
  | n + 1 => cEg w a n + if w n = a then 1 else 0
theorem pop_key : ∀ n, n < 6 → ∀ x, x < 2 ^ n → popN (x + 2 ^ n) = popN x + 1 := by decide +kernel
theorem popN_pEn {w : Nat → Int32} {a : Int32} : ∀ n, n ≤ 6 → popN (pEn w a n) = cEg w a n
  | 0, _ => by
    rw [pEn, cEg]
    decide
  | n + 1, h => by
    have hi := popN_pEn (w := w) (a := a) n (by omega)
    rw [pEn, cEg]
    by_cases hw : w n = a
    · rw [if_pos hw, if_pos hw, pop_key n (by omega) _ (pEn_lt w a n), hi]
    · rw [if_neg hw, if_neg hw, Nat.add_zero, Nat.add_zero, hi]
theorem cEg_one {w w' : Nat → Int32} {a : Int32} {e : Nat} (h0 : w e ≠ a) (h : ∀ j, j ≠ e → w' j = w j) : ∀ n, cEg w' a n = cEg w a n + if e < n ∧ w' e = a then 1 else 0
  | 0 => by rw [if_neg (fun q => absurd q.1 (by omega))]; rfl
  | n + 1 => by
    rw [cEg, cEg, cEg_one h0 h n]
    by_cases hn : n = e
    · subst hn
      rw [if_neg (fun q => absurd q.1 (by omega)), if_neg h0]
      by_cases hw : w' n = a
      · rw [if_pos hw, if_pos ⟨by omega, hw⟩]
      · rw [if_neg hw, if_neg (fun q => hw q.2)]
    · rw [h n hn]
      by_cases hq : e < n ∧ w' e = a
      · rw [if_pos hq, if_pos (show e < n + 1 ∧ w' e = a from ⟨by omega, hq.2⟩)]; omega
      · have hq' : ¬ (e < n + 1 ∧ w' e = a) := fun q => hq ⟨by omega, q.2⟩
        rw [if_neg hq, if_neg hq']; omega
def scF (ns ne : Nat) (F : Nat → Nat → Int32) : Nat := popN (pEn (pRw F ns) 1 ne)
theorem scF_le (ns ne : Nat) (F : Nat → Nat → Int32) : scF ns ne F ≤ 6 := popN_le _
theorem pTo_ne0 {F : Nat → Nat → Int32} {ns ne e : Nat} (h5 : ns ≤ 5) (hv : vF ns ne F) : pTo F ns e ≠ 0 := by
  unfold pTo
  rcases pBe_in hv e with h | ⟨j, hj, h⟩
  · rw [if_pos h]; decide
  · rw [h, if_neg (n9_neg (by omega)), nI_1]; exact nI_ne0 (by omega) (by omega)
theorem scF_step {K Sk Rm : Nat → Int32} {F : Nat → Nat → Int32} {ns ne e : Nat} (h5 : ns ≤ 5) (h6 : ne ≤ 6) (he : e < ne) (hv : vF ns ne F) (h0 : F 2 e = 0) : scF ns ne (pRoll K Sk Rm ne e ns 0 F).2 = scF ns ne F + if pRw (pRoll K Sk Rm ne e ns 0 F).2 ns e = 1 then 1 else 0 := by
  obtain ⟨k4, k5, k23, -⟩ := pRoll_keep (K := K) (Sk := Sk) (Rm := Rm) (ne := ne) (e := e) h5 ns 0 F (by omega) (fun j hj => (hv.2.1 j hj).2.1)
  have hw0 : pRw F ns e ≠ 1 := by
    unfold pRw
    rw [h0, if_neg (fun q => pTo_ne0 h5 hv q.symm)]
    decide
  have hj : ∀ j, j ≠ e → pRw (pRoll K Sk Rm ne e ns 0 F).2 ns j = pRw F ns j := fun j hj => by
    unfold pRw pTo pBe
    rw [k4, k5, (k23 j hj).1, (k23 j hj).2]
  unfold scF
  rw [popN_pEn ne h6, popN_pEn ne h6, cEg_one hw0 hj ne]
  by_cases hq : pRw (pRoll K Sk Rm ne e ns 0 F).2 ns e = 1
  · rw [if_pos hq, if_pos ⟨he, hq⟩]
  · rw [if_neg hq, if_neg (fun q => hq q.2)]
/-! many eggs, one after the other -/
def rSeq (K Sk Rm : Nat → Int32) (ns ne : Nat) (F0 : Nat → Nat → Int32) : List Nat → Nat → Nat → Int32 := List.foldl (fun F e => (pRoll K Sk Rm ne e ns 0 F).2) F0
theorem rSeq_snoc {K Sk Rm : Nat → Int32} {ns ne : Nat} {F0 : Nat → Nat → Int32} (l : List Nat) (e : Nat) : rSeq K Sk Rm ns ne F0 (l ++ [e]) = (pRoll K Sk Rm ne e ns 0 (rSeq K Sk Rm ns ne F0 l)).2 := by
  unfold rSeq
  rw [List.foldl_append]
  rfl
theorem snoc_ind {P : List Nat → Prop} (h0 : P []) (h1 : ∀ l e, P l → P (l ++ [e])) : ∀ l, P l := by
  intro l
  induction hn : l.length generalizing l with
  | zero =>
    have : l = [] := List.eq_nil_of_length_eq_zero hn
    rw [this]; exact h0
  | succ k ih =>
    rcases List.eq_nil_or_concat l with h | ⟨q, d, h⟩
    · rw [h]; exact h0
    · have hq : l = q ++ [d] := by rw [h]; simp
      rw [hq] at hn ⊢
      rw [List.length_append, List.length_singleton] at hn
      exact h1 q d (ih q (by omega))
theorem rSeq_v {K Sk Rm : Nat → Int32} {ns ne : Nat} {F0 : Nat → Nat → Int32} (h5 : ns ≤ 5) (hK : ∀ e, e < ne → ∃ w, w ≤ 5 ∧ K e = nI w) (hv : vF ns ne F0) : ∀ l, (∀ d, d ∈ l → d < ne) → vF ns ne (rSeq K Sk Rm ns ne F0 l) := by
  refine snoc_ind (fun _ => hv) (fun l e ih hd => ?_)
  rw [rSeq_snoc]
  have he := hd e (List.mem_append_right _ (List.mem_singleton.mpr rfl))
  exact pRoll_v h5 (hK e he) he ns 0 _ (by omega) (ih (fun d hx => hd d (List.mem_append_left _ hx)))
theorem rSeq_nest {K Sk Rm : Nat → Int32} {ns ne e : Nat} {F0 : Nat → Nat → Int32} (h5 : ns ≤ 5) (hK : ∀ e, e < ne → ∃ w, w ≤ 5 ∧ K e = nI w) (hv : vF ns ne F0) : ∀ l, (∀ d, d ∈ l → d < ne) → (rSeq K Sk Rm ns ne F0 l 2 e = 0 ↔ F0 2 e = 0 ∧ l.contains e = false) := by
  refine snoc_ind (fun _ => ⟨fun q => ⟨q, rfl⟩, fun q => q.1⟩) (fun l d ih hd => ?_)
  have hd' : ∀ x, x ∈ l → x < ne := fun x hx => hd x (List.mem_append_left _ hx)
  have hi := ih hd'
  have hv' := rSeq_v (Sk := Sk) (Rm := Rm) h5 hK hv l hd'
  obtain ⟨-, -, k23, kz⟩ := pRoll_keep (K := K) (Sk := Sk) (Rm := Rm) (ne := ne) (e := d) h5 ns 0 (rSeq K Sk Rm ns ne F0 l) (by omega) (fun j hj => (hv'.2.1 j hj).2.1)
  rw [rSeq_snoc, contains_snoc]
  by_cases hde : e = d
  · subst hde
    refine ⟨fun q => absurd q kz, fun q => ?_⟩
    have := q.2
    rw [beq_self_eq_true, Bool.or_true] at this
    exact absurd this (by decide)
  · rw [(k23 e hde).1, hi, show (e == d) = false from beq_false_of_ne hde, Bool.or_false]
/-! the tree -/
theorem fe_same {g : Nat → oSt → oSt} {st : oSt} : ∀ n, (∀ k, k < n → g k st = st) → fe g n st = st
  | 0, _ => rfl
  | n + 1, h => by rw [fe, fe_same n (fun k hk => h k (by omega)), h n (by omega)]
theorem fe_more {g : Nat → oSt → oSt} {st : oSt} {a : Nat} (h : ∀ k st, a ≤ k → g k st = st) : ∀ b, fe g (a + b) st = fe g a st
  | 0 => rfl
  | b + 1 => by rw [← Nat.add_assoc, fe, h (a + b) _ (by omega), fe_more h b]
theorem TT_prune {inS : Nat → Bool} {score : List Nat → Nat} (hsc : ∀ pre e, okB inS (pre ++ [e]) = true → score (pre ++ [e]) ≤ score pre + 1) : ∀ m pre b q, okB inS pre = true → score pre + m ≤ b → TT inS score m pre (some (b, q)) = some (b, q)
  | 0, pre, b, q, _, h => by rw [TT, btr, if_neg (by omega)]
  | m + 1, pre, b, q, hok, h => by
    rw [TT]
    refine fe_same 6 (fun k _ => ?_)
    by_cases hc : (inS k && !(pre.contains k)) = true
    · have hok' : okB inS (pre ++ [k]) = true := by rw [okB_snoc, hok, hc]; rfl
      have := hsc pre k hok'
      show (if (inS k && !(pre.contains k)) = true then TT inS score m (pre ++ [k]) (some (b, q)) else some (b, q)) = some (b, q)
      rw [if_pos hc]
      exact TT_prune hsc m (pre ++ [k]) b q hok' (by omega)
    · show (if (inS k && !(pre.contains k)) = true then TT inS score m (pre ++ [k]) (some (b, q)) else some (b, q)) = some (b, q)
      rw [if_neg hc]
/-- an answer, once there, stays one -/
theorem fe_some {g : Nat → oSt → oSt} (h : ∀ k st, (∃ x, st = some x) → ∃ x, g k st = some x) : ∀ n st, (∃ x, st = some x) → ∃ x, fe g n st = some x
  | 0, _, hs => hs
  | n + 1, st, hs => by rw [fe]; exact h n _ (fe_some h n st hs)
theorem TT_keep {inS : Nat → Bool} {score : List Nat → Nat} : ∀ m pre st, (∃ x, st = some x) → ∃ x, TT inS score m pre st = some x
  | 0, pre, st, hs => by
    obtain ⟨⟨b, q⟩, rfl⟩ := hs
    rw [TT, btr]
    split
    · exact ⟨_, rfl⟩
    · exact ⟨_, rfl⟩
  | m + 1, pre, st, hs => by
    rw [TT]
    refine fe_some (fun k st' hs' => ?_) 6 st hs
    by_cases hc : (inS k && !(pre.contains k)) = true
    · simp only [if_pos hc]; exact TT_keep m (pre ++ [k]) st' hs'
    · simp only [if_neg hc]; exact hs'
def avN (f : Nat → Bool) : Nat → Nat
  | 0 => 0
  | n + 1 => avN f n + if f n = true then 1 else 0
theorem avN_one {f f' : Nat → Bool} {e : Nat} (h : ∀ j, j ≠ e → f' j = f j) : ∀ n, avN f n ≤ avN f' n + if e < n then 1 else 0
  | 0 => Nat.zero_le _
  | n + 1 => by
    have hi := avN_one h n
    rw [avN, avN]
    by_cases hn : n = e
    · subst hn
      rw [if_neg (by omega)] at hi
      rw [if_pos (show n < n + 1 by omega)]
      split <;> split <;> omega
    · rw [h n hn]
      by_cases hq : e < n
      · rw [if_pos hq] at hi
        rw [if_pos (show e < n + 1 by omega)]
        omega
      · rw [if_neg hq] at hi
        rw [if_neg (show ¬ e < n + 1 by omega)]
        omega
theorem avN_pos {f : Nat → Bool} : ∀ n, 0 < avN f n → ∃ e, e < n ∧ f e = true
  | 0, h => absurd h (Nat.lt_irrefl 0)
  | n + 1, h => by
    rw [avN] at h
    by_cases hf : f n = true
    · exact ⟨n, by omega, hf⟩
    · rw [if_neg hf] at h
      obtain ⟨e, he, q⟩ := avN_pos n h
      exact ⟨e, by omega, q⟩
theorem av_len {inS : Nat → Bool} : ∀ l : List Nat, avN inS 6 ≤ avN (fun e => inS e && !(l.contains e)) 6 + l.length := by
  refine snoc_ind ?_ (fun l d ih => ?_)
  · have : (fun e => inS e && !(([] : List Nat).contains e)) = inS := by
      funext e
      show (inS e && !false) = inS e
      rw [Bool.not_false, Bool.and_true]
    rw [this]
    exact Nat.le_add_right _ _
  · have h := avN_one (f := fun e => inS e && !(l.contains e)) (f' := fun e => inS e && !((l ++ [d]).contains e)) (e := d) (fun j hj => by
      show (inS j && !((l ++ [d]).contains j)) = (inS j && !(l.contains j))
      rw [contains_snoc, show (j == d) = false from beq_false_of_ne hj, Bool.or_false]) 6
    rw [List.length_append, List.length_singleton]
    have : (if d < 6 then 1 else 0) ≤ 1 := by split <;> omega
    omega
theorem TT_some {inS : Nat → Bool} {score : List Nat → Nat} : ∀ m pre st, pre.length + m ≤ avN inS 6 → ∃ x, TT inS score m pre st = some x
  | 0, pre, st, _ => by
    rw [TT]
    cases st with
    | none => exact ⟨_, rfl⟩
    | some x =>
      obtain ⟨b, q⟩ := x
      rw [btr]
      split
      · exact ⟨_, rfl⟩
      · exact ⟨_, rfl⟩
  | m + 1, pre, st, h => by
    have hl := av_len (inS := inS) pre
    obtain ⟨e, he, hc⟩ := avN_pos (f := fun e => inS e && !(pre.contains e)) 6 (by omega)
    have hc' : (inS e && !(pre.contains e)) = true := hc
    rw [TT]
    have hg : ∀ k (st' : oSt), (∃ x, st' = some x) → ∃ x, (fun e st => if (inS e && !(pre.contains e)) = true then TT inS score m (pre ++ [e]) st else st) k st' = some x := fun k st' hs' => by
      by_cases hk : (inS k && !(pre.contains k)) = true
      · simp only [if_pos hk]; exact TT_keep m (pre ++ [k]) st' hs'
      · simp only [if_neg hk]; exact hs'
    have hup : ∀ n, e < n → ∃ x, fe (fun e st => if (inS e && !(pre.contains e)) = true then TT inS score m (pre ++ [e]) st else st) n st = some x := by
      intro n
      induction n with
      | zero => intro h; omega
      | succ n ih =>
        intro hn
        rw [fe]
        by_cases hen : e = n
        · subst hen
          simp only [if_pos hc']
          exact TT_some m (pre ++ [e]) _ (by rw [List.length_append, List.length_singleton]; omega)
        · exact hg n _ (ih (by omega))
    exact hup 6 he
theorem pop_av : ∀ S, S < 64 → avN (sB S) 6 = popN S := by decide +kernel
