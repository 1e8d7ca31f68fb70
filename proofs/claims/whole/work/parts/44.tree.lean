/-! orders of eggs, of scales: the tree of all of them, the lowest first -/
abbrev oSt := Option (Nat × List Nat)
def btr (sc : Nat) (p : List Nat) : oSt → oSt
  | none => some (sc, p)
  | some (b, q) => if b < sc then some (sc, p) else some (b, q)
def moI : oSt → Int32
  | none => -1
  | some (b, _) => nI b
def fe (g : Nat → oSt → oSt) : Nat → oSt → oSt
  | 0, st => st
  | k + 1, st => g k (fe g k st)
def TT (inS : Nat → Bool) (score : List Nat → Nat) : Nat → List Nat → oSt → oSt
  | 0, pre, st => btr (score pre) pre st
  | m + 1, pre, st => fe (fun e st => if (inS e && !(pre.contains e)) = true then TT inS score m (pre ++ [e]) st else st) 6 st
def okB (inS : Nat → Bool) : List Nat → Bool
  | [] => true
  | d :: l => inS d && !(l.contains d) && okB inS l
theorem contains_snoc (l : List Nat) (e d : Nat) : (l ++ [e]).contains d = (l.contains d || d == e) := by
  induction l with
  | nil => rw [List.nil_append, List.contains_cons]; simp
  | cons a l ih => rw [List.cons_append, List.contains_cons, ih, List.contains_cons, Bool.or_assoc]
theorem okB_snoc {inS : Nat → Bool} {e : Nat} : ∀ l, okB inS (l ++ [e]) = (okB inS l && (inS e && !(l.contains e)))
  | [] => by
    show (inS e && !(([] : List Nat).contains e) && true) = (true && (inS e && !(([] : List Nat).contains e)))
    rw [Bool.and_true, Bool.true_and]
  | d :: l => by
    rw [List.cons_append, okB, okB_snoc l, okB, contains_snoc, List.contains_cons, show (d == e) = (e == d) from Bool.beq_comm]
    generalize inS d = a
    generalize l.contains d = b
    generalize okB inS l = c
    generalize inS e = f
    generalize l.contains e = g
    generalize (e == d) = h
    revert a b c f g h
    decide
def enc : List Nat → Nat := List.foldl (fun a d => 6 * a + d) 0
theorem enc_snoc (l : List Nat) (d : Nat) : enc (l ++ [d]) = 6 * enc l + d := by
  unfold enc
  rw [List.foldl_append]
  rfl
theorem enumT {inS : Nat → Bool} {score : List Nat → Nat} {n : Nat} {Lp : Nat → Int32 → Int32 → xMem → Option (Int32 × xMem)} {RR : oSt → xMem → Prop} (hstep : ∀ p, p.length = n → (∀ d, d ∈ p → d < 6) → ∀ f st N, RR st N → ∃ N', Lp (f + 1) (moI st) (nI (enc p)) N = Lp f (moI (if okB inS p = true then btr (score p) p st else st)) (nI (enc p + 1)) N' ∧ RR (if okB inS p = true then btr (score p) p st else st) N') :
    ∀ m pre, pre.length + m = n → (∀ d, d ∈ pre → d < 6) → ∀ f st N, RR st N → ∃ N', Lp (f + 6 ^ m) (moI st) (nI (enc pre * 6 ^ m)) N = Lp f (moI (if okB inS pre = true then TT inS score m pre st else st)) (nI ((enc pre + 1) * 6 ^ m)) N' ∧ RR (if okB inS pre = true then TT inS score m pre st else st) N' := by
  intro m
  induction m with
  | zero =>
    intro pre h1 h2 f st N hR
    rw [Nat.pow_zero, Nat.mul_one, Nat.mul_one]
    exact hstep pre (by omega) h2 f st N hR
  | succ m ih =>
    intro pre h1 h2 f st N hR
    have key : ∀ k, k ≤ 6 → ∃ N', Lp (f + 6 ^ (m + 1)) (moI st) (nI (enc pre * 6 ^ (m + 1))) N = Lp (f + (6 - k) * 6 ^ m) (moI (if okB inS pre = true then fe (fun e st => if (inS e && !(pre.contains e)) = true then TT inS score m (pre ++ [e]) st else st) k st else st)) (nI ((6 * enc pre + k) * 6 ^ m)) N' ∧ RR (if okB inS pre = true then fe (fun e st => if (inS e && !(pre.contains e)) = true then TT inS score m (pre ++ [e]) st else st) k st else st) N' := by
      intro k
      induction k with
      | zero =>
        intro _
        refine ⟨N, ?_, ?_⟩
        · have e0 : enc pre * 6 ^ (m + 1) = (6 * enc pre + 0) * 6 ^ m := by
            show enc pre * 6 ^ (m + 1) = 6 * enc pre * 6 ^ m
            rw [Nat.pow_succ, Nat.mul_comm (6 ^ m) 6, ← Nat.mul_assoc, Nat.mul_comm (enc pre) 6]
          have e1 : 6 ^ (m + 1) = (6 - 0) * 6 ^ m := by rw [Nat.sub_zero, Nat.pow_succ, Nat.mul_comm]
          rw [fe, ite_self, e0, e1]
        · rw [fe, ite_self]; exact hR
      | succ k ihk =>
        intro hk
        obtain ⟨N1, g1, g2⟩ := ihk (by omega)
        obtain ⟨N2, q1, q2⟩ := ih (pre ++ [k]) (by rw [List.length_append, List.length_singleton]; omega) (fun d hd => by
          rw [List.mem_append, List.mem_singleton] at hd
          rcases hd with hd | hd
          · exact h2 d hd
          · omega) (f + (6 - (k + 1)) * 6 ^ m) _ N1 g2
        have hst : (if okB inS (pre ++ [k]) = true then TT inS score m (pre ++ [k]) (if okB inS pre = true then fe (fun e st => if (inS e && !(pre.contains e)) = true then TT inS score m (pre ++ [e]) st else st) k st else st) else (if okB inS pre = true then fe (fun e st => if (inS e && !(pre.contains e)) = true then TT inS score m (pre ++ [e]) st else st) k st else st)) = (if okB inS pre = true then fe (fun e st => if (inS e && !(pre.contains e)) = true then TT inS score m (pre ++ [e]) st else st) (k + 1) st else st) := by
          rw [okB_snoc]
          by_cases hp : okB inS pre = true
          · rw [if_pos hp, if_pos hp, hp, Bool.true_and, fe]
          · have hpf : okB inS pre = false := by
              cases hb : okB inS pre with
              | true => exact absurd hb hp
              | false => rfl
            rw [if_neg hp, if_neg hp, hpf, Bool.false_and, if_neg (by decide)]
        rw [hst] at q1 q2
        refine ⟨N2, ?_, q2⟩
        rw [g1, ← show f + (6 - (k + 1)) * 6 ^ m + 6 ^ m = f + (6 - k) * 6 ^ m by
          rw [Nat.add_assoc, ← Nat.succ_mul, show Nat.succ (6 - (k + 1)) = 6 - k by omega], ← enc_snoc, q1, enc_snoc, Nat.add_assoc]
    obtain ⟨N', g1, g2⟩ := key 6 (Nat.le_refl _)
    refine ⟨N', ?_, g2⟩
    rw [g1, Nat.sub_self, Nat.zero_mul, Nat.add_zero, show 6 * enc pre + 6 = 6 * (enc pre + 1) by omega, Nat.pow_succ, Nat.mul_comm (6 ^ m) 6, ← Nat.mul_assoc, Nat.mul_comm (enc pre + 1) 6]
    rfl
/-! sets as numbers, once more -/
theorem put_key : ∀ S, S < 64 → ∀ d, d < 6 → nI S ||| ((1 : Int32) <<< (nI d &&& 31)) = nI (S ||| 2 ^ d) ∧ S ||| 2 ^ d < 64 := by decide +kernel
theorem putbit_key : ∀ S, S < 64 → ∀ d, d < 6 → ∀ j, j < 6 → ((S ||| 2 ^ d) / 2 ^ j % 2 = 1 ↔ S / 2 ^ j % 2 = 1 ∨ j = d) := by decide +kernel
theorem less_key : ∀ S, S < 64 → ∀ A, A < 64 → nI S &&& (nI A ^^^ (-1 : Int32)) = nI (S - (S &&& A)) := by decide +kernel
def lbS (S A x : Nat) : Nat → Bool
  | 0 => true
  | d + 1 => (decide (x / 2 ^ d % 2 = 1) == (decide (S / 2 ^ d % 2 = 1) && !(decide (A / 2 ^ d % 2 = 1)))) && lbS S A x d
def lbA (S : Nat) : Nat → Bool
  | 0 => true
  | A + 1 => lbS S A (S - (S &&& A)) 6 && lbA S A
def lbT : Nat → Bool
  | 0 => true
  | S + 1 => lbA S 64 && lbT S
theorem lbT_64 : lbT 64 = true := by decide +kernel
theorem lbS_ok {S A x : Nat} : ∀ n, lbS S A x n = true → ∀ d, d < n → (x / 2 ^ d % 2 = 1 ↔ S / 2 ^ d % 2 = 1 ∧ ¬ A / 2 ^ d % 2 = 1)
  | 0, _, d, hd => absurd hd (by omega)
  | n + 1, h, d, hd => by
    rw [lbS, Bool.and_eq_true] at h
    by_cases hn : d = n
    · subst hn
      have h1 := eq_of_beq h.1
      constructor
      · intro q
        rw [decide_eq_true q] at h1
        have h2 := (Bool.and_eq_true _ _).mp h1.symm
        refine ⟨of_decide_eq_true h2.1, fun z => ?_⟩
        rw [decide_eq_true z] at h2
        exact absurd h2.2 (by decide)
      · intro q
        rw [decide_eq_true q.1, decide_eq_false q.2] at h1
        exact of_decide_eq_true h1
    · exact lbS_ok n h.2 d (by omega)
theorem lbA_ok {S : Nat} : ∀ n, lbA S n = true → ∀ A, A < n → lbS S A (S - (S &&& A)) 6 = true
  | 0, _, A, hA => absurd hA (by omega)
  | n + 1, h, A, hA => by
    rw [lbA, Bool.and_eq_true] at h
    by_cases hn : A = n
    · subst hn; exact h.1
    · exact lbA_ok n h.2 A (by omega)
theorem lbT_ok : ∀ n, lbT n = true → ∀ S, S < n → lbA S 64 = true
  | 0, _, A, hA => absurd hA (by omega)
  | n + 1, h, A, hA => by
    rw [lbT, Bool.and_eq_true] at h
    by_cases hn : A = n
    · subst hn; exact h.1
    · exact lbT_ok n h.2 A (by omega)
theorem lessbit {S A d : Nat} (hS : S < 64) (hA : A < 64) (hd : d < 6) : ((S - (S &&& A)) / 2 ^ d % 2 = 1 ↔ S / 2 ^ d % 2 = 1 ∧ ¬ A / 2 ^ d % 2 = 1) := lbS_ok 6 (lbA_ok 64 (lbT_ok 64 lbT_64 S hS) A hA) d hd
/-- a row holds a path -/
def rPa (R : Nat → Int32) (p : List Nat) : Prop := ∀ i d, p[i]? = some d → R i = nI d
theorem rPa_snoc {R : Nat → Int32} {p : List Nat} {d : Nat} (h : rPa R p) : rPa (upd R p.length (nI d)) (p ++ [d]) := by
  intro i q hq
  rw [upd_e]
  by_cases hi : i < p.length
  · rw [List.getElem?_append_left hi] at hq
    rw [if_neg (by omega)]
    exact h i q hq
  · rw [List.getElem?_append_right (by omega)] at hq
    by_cases hz : i = p.length
    · subst hz
      rw [Nat.sub_self] at hq
      obtain rfl : d = q := Option.some.inj hq
      rw [if_pos rfl]
    · obtain ⟨z, hz⟩ : ∃ z, i - p.length = z + 1 := ⟨i - p.length - 1, by omega⟩
      rw [hz] at hq
      exact absurd hq (by simp)
def sB (S : Nat) : Nat → Bool := fun d => decide (S / 2 ^ d % 2 = 1)
theorem e_isOrder {M : xMem} {S : Nat} (hS : S < 64) {p : List Nat} (hp : p.length ≤ 6) (hd : ∀ d, d ∈ p → d < 6) : ∃ R, f_X8_isOrder (nI (enc p)) (nI p.length) (nI S) M = some (if okB (sB S) p = true then 1 else 0, xs M 8 28 R) ∧ rPa R p := by
  have henc : ∀ q : List Nat, q.length ≤ 6 → (∀ d, d ∈ q → d < 6) → enc q < 6 ^ q.length := by
    intro q
    induction hq : q.length generalizing q with
    | zero =>
      intro _ _
      have : q = [] := List.eq_nil_of_length_eq_zero hq
      subst this
      decide
    | succ k ih =>
      intro h1 h2
      obtain ⟨l, d, rfl⟩ : ∃ l d, q = l ++ [d] := by
        rcases List.eq_nil_or_concat q with h | ⟨l, d, h⟩
        · rw [h] at hq; exact absurd hq (by simp)
        · exact ⟨l, d, by rw [h]; simp⟩
      rw [List.length_append, List.length_singleton] at hq
      have := ih l (by omega) (by omega) (fun x hx => h2 x (List.mem_append_left _ hx))
      have hdd := h2 d (List.mem_append_right _ (List.mem_singleton.mpr rfl))
      rw [enc_snoc, Nat.pow_succ]
      omega
  -- q is still to come, l has been read, A the set of l
  have key : ∀ f (q l : List Nat) A R v, q ++ l = p → q.length < f → A < 64 → (∀ j, j < 6 → (A / 2 ^ j % 2 = 1 ↔ l.contains j = true)) → v = (if okB (sB S) l = true then 1 else 0) → (∀ i d, l[i]? = some d → R (q.length + i) = nI d) → ∃ R', f_X8_isOrder_l14 (nI S) f (nI (enc q)) (nI A) v (nI q.length + (-1)) (xs M 8 28 R) = some (if okB (sB S) p = true then 1 else 0, xs M 8 28 R') ∧ rPa R' p := by
    intro f
    induction f with
    | zero => intro q l A R v h1 h2; omega
    | succ f ih =>
      intro q l A R v h1 h2 hA hbit hv hR
      rw [f_X8_isOrder_l14]
      rcases List.eq_nil_or_concat q with hq | ⟨q', d, hq⟩
      · subst hq
        rw [List.nil_append] at h1
        subst h1
        have hbo : xbo v = true := by
          rw [hv]
          split
          · exact xbo_1
          · exact xbo_0
        rw [if_pos (by decide), xchk_t _ hbo, hv]
        refine ⟨R, rfl, fun i d h => ?_⟩
        have := hR i d h
        rwa [List.length_nil, Nat.zero_add] at this
      · have hq' : q = q' ++ [d] := by rw [hq]; simp
        subst hq'
        have hlen : q'.length + 1 + l.length ≤ 6 := by
          have := congrArg List.length h1
          rw [List.length_append, List.length_append, List.length_singleton] at this
          omega
        have hd6 : d < 6 := hd d (by rw [← h1]; exact List.mem_append_left _ (List.mem_append_right _ (List.mem_singleton.mpr rfl)))
        have he := henc (q' ++ [d]) (by rw [List.length_append, List.length_singleton]; omega) (fun x hx => hd x (by rw [← h1]; exact List.mem_append_left _ hx))
        have h66 : 6 ^ (q' ++ [d]).length ≤ 46656 := Nat.le_trans (Nat.pow_le_pow_right (n := 6) (by decide) (show (q' ++ [d]).length ≤ 6 by rw [List.length_append, List.length_singleton]; omega)) (by decide)
        have hE : enc (q' ++ [d]) = 6 * enc q' + d := enc_snoc q' d
        rw [List.length_append, List.length_singleton, pk_m1]
        have b6 := xb_nI (show q'.length < 6 by omega) (by decide)
        have hdig : nI (enc (q' ++ [d])) - nI (enc (q' ++ [d])) / 6 * 6 = nI d := by
          have := pk_rem (a := enc (q' ++ [d])) (d := 6) (by omega) (by decide) (by decide)
          rw [show (enc (q' ++ [d])) % 6 = d by omega] at this
          exact this
        have hdiv : nI (enc (q' ++ [d])) / 6 = nI (enc q') := by
          have := pk_div (a := enc (q' ++ [d])) (d := 6) (by omega) (by decide) (by decide)
          rw [show (enc (q' ++ [d])) / 6 = enc q' by omega] at this
          exact this
        rw [if_neg (nI_pos (by omega)), xchk_t _ b6, xlet_e, hdig, xs_ut (by omega)]
        have eo : xs M 8 28 (upd R q'.length (nI d)) 8 28 q'.length = nI d := by rw [xs_same, upd_e, if_pos rfl]
        unfold f_X8_isOrder_b66 f_X8_isOrder_b67
        have hless : S - (S &&& A) < 64 := by omega
        rw [xchk_t _ b6, xchk_t _ b6, nI_clamp (by omega), eo, less_key S hS A hA, e_has hless hd6, xb1_e, (put_key A hA d hd6).1, hdiv]
        have hnext : ∀ v', v' = (if okB (sB S) (d :: l) = true then (1 : Int32) else 0) → ∃ R', f_X8_isOrder_l14 (nI S) f (nI (enc q')) (nI (A ||| 2 ^ d)) v' (nI q'.length + (-1)) (xs M 8 28 (upd R q'.length (nI d))) = some (if okB (sB S) p = true then 1 else 0, xs M 8 28 R') ∧ rPa R' p := by
          intro v' hv'
          refine ih q' (d :: l) (A ||| 2 ^ d) _ v' (by rw [← h1, List.append_assoc]; rfl) (by rw [List.length_append, List.length_singleton] at h2; omega) (put_key A hA d hd6).2 (fun j hj => ?_) hv' (fun i x hx => ?_)
          · rw [putbit_key A hA d hd6 j hj, hbit j hj, List.contains_cons, Bool.or_eq_true, beq_iff_eq]
            exact Or.comm
          · rw [upd_e]
            cases i with
            | zero =>
              obtain rfl : d = x := Option.some.inj hx
              rw [Nat.add_zero, if_pos rfl]
            | succ i =>
              rw [if_neg (by omega)]
              have := hR i x hx
              rw [List.length_append, List.length_singleton] at this
              rw [show q'.length + (i + 1) = q'.length + 1 + i by omega]
              exact this
        have hcond : ((S - (S &&& A)) / 2 ^ d % 2 = 1) ↔ (sB S d && !(l.contains d)) = true := by
          rw [lessbit hS hA hd6, hbit d hd6, Bool.and_eq_true, Bool.not_eq_true']
          unfold sB
          rw [decide_eq_true_iff]
          refine and_congr_right (fun _ => ?_)
          cases l.contains d <;> simp
        by_cases hok : okB (sB S) l = true
        · rw [hv, if_pos hok, if_neg (by decide)]
          by_cases hc : (S - (S &&& A)) / 2 ^ d % 2 = 1
          · rw [if_pos hc, if_neg (by decide), xchk_t _ b6]
            exact hnext 1 (by rw [okB, hcond.mp hc, hok, Bool.and_true, if_pos rfl])
          · have hc' : (sB S d && !(l.contains d)) = false := by
              cases hb : (sB S d && !(l.contains d)) with
              | true => exact absurd (hcond.mpr hb) hc
              | false => rfl
            rw [if_neg hc, if_pos rfl]
            exact hnext 0 (by rw [okB, hc', Bool.false_and, if_neg (by decide)])
        · have hok' : okB (sB S) l = false := by
            cases hb : okB (sB S) l with
            | true => exact absurd hb hok
            | false => rfl
          rw [hv, if_neg hok, if_pos rfl]
          exact hnext 0 (by rw [okB, hok', Bool.and_false, if_neg (by decide)])
  have h := key FU p [] 0 (M 8 28) 1 (List.append_nil p) (FU_gt (by omega)) (by decide) (fun j hj => by
    have : ∀ j, j < 6 → ¬ 0 / 2 ^ j % 2 = 1 := by decide
    exact ⟨fun q => absurd q (this j hj), fun q => absurd q (by simp)⟩) rfl (fun i d q => absurd q (by simp))
  rw [xs_self] at h
  unfold f_X8_isOrder
  rw [Int32.sub_eq_add_neg]
  exact h
