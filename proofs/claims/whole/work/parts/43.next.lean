/-! parts: how many ways make a test egg of g grams fall from each scale -/
def ixN (A : Nat → Int32) (ns : Nat) (g : Int32) (p : Int32 × Int32) : Nat := if pFf A g p.1 p.2 ns 0 = -9 then 5 else (pFf A g p.1 p.2 ns 0).toNatClampNeg
theorem ixN_lt {A : Nat → Int32} {ns : Nat} {g : Int32} {p : Int32 × Int32} (h5 : ns ≤ 5) : ixN A ns g p < 6 := by
  unfold ixN
  rcases pFf_in (A := A) (g := g) (off := p.1) (b := p.2) ns 0 with h | ⟨s, hs, h⟩
  · rw [if_pos h]; omega
  · rw [h, if_neg (n9_neg (by omega)), nI_clamp (by omega)]; omega
def inc (pt : Nat → Nat) (k : Nat) : Nat → Nat := fun j => if j = k then pt j + 1 else pt j
def cnt (A : Nat → Int32) (ns : Nat) (g : Int32) : List (Int32 × Int32) → (Nat → Nat) → Nat → Nat
  | [], pt => pt
  | p :: l, pt => cnt A ns g l (inc pt (ixN A ns g p))
theorem cnt_app {A : Nat → Int32} {ns : Nat} {g : Int32} : ∀ a b pt, cnt A ns g (a ++ b) pt = cnt A ns g b (cnt A ns g a pt)
  | [], _, _ => rfl
  | p :: a, b, pt => by rw [List.cons_append, cnt, cnt_app a b]; rfl
theorem cnt_le {A : Nat → Int32} {ns : Nat} {g : Int32} : ∀ l pt k, cnt A ns g l pt k ≤ pt k + l.length
  | [], _, _ => Nat.le_refl _
  | p :: l, pt, k => by
    have := cnt_le (A := A) (ns := ns) (g := g) l (inc pt (ixN A ns g p)) k
    rw [cnt, List.length_cons]
    have h2 : inc pt (ixN A ns g p) k ≤ pt k + 1 := by
      unfold inc
      split <;> omega
    omega
def mxN (pt : Nat → Nat) : Nat → Nat
  | 0 => 0
  | k + 1 => max (mxN pt k) (pt k)
theorem mxN_0 : ∀ n, mxN (fun _ => 0) n = 0
  | 0 => rfl
  | n + 1 => by rw [mxN, mxN_0 n]; rfl
theorem mxN_inc {pt : Nat → Nat} {k : Nat} : ∀ n, mxN (inc pt k) n = if k < n then max (mxN pt n) (pt k + 1) else mxN pt n
  | 0 => by rw [if_neg (by omega)]; rfl
  | n + 1 => by
    rw [mxN, mxN, mxN_inc n]
    unfold inc
    by_cases h : n = k
    · subst h
      rw [if_neg (by omega), if_pos rfl, if_pos (by omega)]
      omega
    · rw [if_neg h]
      by_cases h2 : k < n
      · rw [if_pos h2, if_pos (by omega)]; omega
      · rw [if_neg h2, if_neg (by omega)]
theorem mxN_le {pt : Nat → Nat} {b : Nat} : ∀ n, (∀ k, k < n → pt k ≤ b) → mxN pt n ≤ b
  | 0, _ => Nat.zero_le _
  | n + 1, h => by
    have := mxN_le n (fun k hk => h k (by omega))
    have := h n (by omega)
    rw [mxN]; omega
/-- a row holds the parts -/
def rP6 (R : Nat → Int32) (pt : Nat → Nat) : Prop := ∀ k, k < 6 → R k = nI (pt k)
theorem rP6.up {R : Nat → Int32} {pt : Nat → Nat} {j : Nat} (h : rP6 R pt) (hj : j < 6) : rP6 (upd R j (nI (pt j + 1))) (inc pt j) := by
  intro k hk
  rw [upd_e]
  unfold inc
  by_cases hkj : k = j
  · subst hkj; rw [if_pos rfl, if_pos rfl]
  · rw [if_neg hkj, if_neg hkj]; exact h k hk
theorem e_fill6 (M : xMem) : ∃ R, f_J7_fill_53178 7 8 6 0 M = some (xs M 7 8 R) ∧ rP6 R (fun _ => 0) := by
  have key : ∀ n j R, j ≤ 6 → 6 - j < n → (∀ k, k < j → R k = 0) → ∃ R', f_J7_fill_53178_l5 7 8 6 0 n (nI j) (xs M 7 8 R) = some (xs M 7 8 R') ∧ rP6 R' (fun _ => 0) := by
    intro n
    induction n with
    | zero => intro j R h1 h2; omega
    | succ n ih =>
      intro j R h1 h2 hR
      rw [f_J7_fill_53178_l5, show Int32.ofNat 6 = nI 6 from rfl]
      by_cases hj : j = 6
      · subst hj
        rw [if_pos (i32_le_rfl _)]
        exact ⟨R, rfl, hR⟩
      · rw [if_neg (le_nI (by omega) (by omega) (by omega)), xchk_t _ (xb_nI (show j < 6 by omega) (by decide)), xlet_e, xs_ut (by omega), nI_1]
        refine ih (j + 1) _ (by omega) (by omega) (fun k hk => ?_)
        rw [upd_e]
        by_cases hkj : k = j
        · rw [if_pos hkj]
        · rw [if_neg hkj]; exact hR k (by omega)
  have h := key FU 0 (M 7 8) (by omega) (FU_gt (by omega)) (fun k hk => absurd hk (by omega))
  rw [xs_self] at h
  exact h
theorem ix_two {A : Nat → Int32} {ns : Nat} {g : Int32} {p : Int32 × Int32} (h5 : ns ≤ 5) {α : Type} (f : Int32 → α) : (if pFf A g p.1 p.2 ns 0 = -9 then f 5 else f (pFf A g p.1 p.2 ns 0)) = f (nI (ixN A ns g p)) ∧ (if (0 : Int32) ≤ pFf A g p.1 p.2 ns 0 then f (pFf A g p.1 p.2 ns 0) else f 5) = f (nI (ixN A ns g p)) := by
  unfold ixN
  rcases pFf_in (A := A) (g := g) (off := p.1) (b := p.2) ns 0 with h | ⟨s, hs, h⟩
  · rw [h, if_pos rfl, if_pos rfl, if_neg (by decide)]; exact ⟨rfl, rfl⟩
  · rw [h, if_neg (n9_neg (by omega)), if_neg (n9_neg (by omega)), if_pos (nI_pos' (by omega)), nI_clamp (by omega)]; exact ⟨rfl, rfl⟩
theorem e_gpart {M0 M : xMem} {wl : List (Int32 × Int32)} {ns : Nat} {g : Int32} {R0 : Nat → Int32} (hw : WSt M0 M wl) (hl : wl.length ≤ 91) (hns : M0 3 0 0 = nI ns) (h5 : ns ≤ 5) : ∃ R, f_X5_greatestPart g (xs M 7 8 R0) = some (nI (mxN (cnt (M0 3 3) ns g wl (fun _ => 0)) 6), xs M 7 8 R) := by
  obtain ⟨w1, -, -, w4, w5⟩ := hw
  have key : ∀ n pre l pt R, wl = pre ++ l → l.length < n → rP6 R pt → (∀ k, k < 6 → pt k ≤ pre.length) → ∃ R', f_X5_greatestPart_l12 g n (nI (mxN pt 6)) (nI pre.length) (xs M 7 8 R) = some (nI (mxN (cnt (M0 3 3) ns g l pt) 6), xs M 7 8 R') := by
    intro n
    induction n with
    | zero => intro pre l pt R h1 h2; omega
    | succ n ih =>
      intro pre l pt R h1 h2 hR hb
      have e6 : xs M 7 8 R 7 0 6 = nI wl.length := by rw [xs_ne _ _ _ _ (by decide)]; exact w4
      rw [f_X5_greatestPart_l12, e6]
      cases l with
      | nil =>
        rw [List.append_nil] at h1
        rw [h1, if_pos (i32_le_rfl _)]
        exact ⟨R, rfl⟩
      | cons p l =>
        have hlen : wl.length = pre.length + (l.length + 1) := by rw [h1, List.length_append, List.length_cons]
        have hp : wl[pre.length]? = some p := by
          rw [h1, List.getElem?_append_right (Nat.le_refl _), Nat.sub_self]
          rfl
        have b91 := xb_nI (show pre.length < 91 by omega) (by decide)
        have e3 : xs M 7 8 R 3 = M0 3 := by rw [xs_o (by decide)]; exact w1 3 (by decide)
        have e5 : xs M 7 8 R 7 5 = M 7 5 := xs_ne _ _ _ _ (by decide)
        have e7 : xs M 7 8 R 7 6 = M 7 6 := xs_ne _ _ _ _ (by decide)
        have hix := ixN_lt (A := M0 3 3) (g := g) (p := p) h5
        have b6 := xb_nI hix (by decide)
        have hbi := hb _ hix
        have hmx := mxN_le 6 hb
        rw [if_neg (le_nI (by omega) (by omega) (by omega)), xchk_t _ b91, xchk_t _ b91, nI_clamp (by omega), e5, e7, (w5 _ _ hp).1, (w5 _ _ hp).2, e_ff (by rw [e3]; exact hns) h5, xb1_e, e3, (ix_two h5 _).1]
        unfold f_X5_greatestPart_b52
        rw [xchk_t _ b6, xchk_t _ b6, xlet_e, xchk_t _ b6, nI_clamp (by omega), xs_same, hR _ hix, nI_1, nI_1, xs_ut (by omega), xs_same, upd_e, if_pos rfl]
        have hmax : (if nI (mxN pt 6) < nI (pt (ixN (M0 3 3) ns g p) + 1) then nI (pt (ixN (M0 3 3) ns g p) + 1) else nI (mxN pt 6)) = nI (mxN (inc pt (ixN (M0 3 3) ns g p)) 6) := by
          rw [mxN_inc, if_pos hix]
          by_cases hlt : mxN pt 6 < pt (ixN (M0 3 3) ns g p) + 1
          · rw [if_pos (nI_lt hlt (by omega)), Nat.max_eq_right (by omega)]
          · rw [if_neg (fun q => hlt ((nI_ltI (by omega) (by omega)).mp q)), Nat.max_eq_left (by omega)]
        rw [hmax]
        have hi := ih (pre ++ [p]) l (inc pt (ixN (M0 3 3) ns g p)) _ (by rw [h1, List.append_assoc]; rfl) (by rw [List.length_cons] at h2; omega) (hR.up hix) (fun k hk => by
          have := hb k hk
          rw [List.length_append, List.length_singleton]
          unfold inc
          split <;> omega)
        rw [List.length_append, List.length_singleton] at hi
        exact hi
  unfold f_X5_greatestPart
  obtain ⟨R, g1, g2⟩ := e_fill6 (xs M 7 8 R0)
  rw [xs_xs] at g1
  rw [g1, xb1_e]
  have h := key FU [] wl (fun _ => 0) R rfl (FU_gt (by omega)) g2 (fun k _ => Nat.zero_le _)
  rw [mxN_0] at h
  exact h
/-! the reference's greatest -/
theorem r_adds {N : xMem} {A G Sc : Nat → Int32} {ns nt : Nat} {g : Int32} {p : Int32 × Int32} {R : Nat → Int32} {pt : Nat → Nat} (h : RT N A G Sc ns nt) (hR : rP6 R pt) : ∃ R', f_X8_adds g p.1 p.2 (xs N 8 31 R) = some (xs N 8 31 R') ∧ rP6 R' (cnt A ns g (if pSo A G Sc ns nt p then [p] else []) pt) := by
  have h' : RT (xs N 8 31 R) A G Sc ns nt := h.of (xs_ne _ _ _ _ (by decide)) (xs_ne _ _ _ _ (by decide)) (xs_ne _ _ _ _ (by decide))
  have h5 := h.2.1
  have hix := ixN_lt (A := A) (g := g) (p := p) h5
  have b6 := xb_nI hix (by decide)
  unfold f_X8_adds f_X8_adds_b38
  rw [h'.so, xb1_e, r_ff h'.1 h5 h'.2.2.1, xb1_e, (ix_two h5 _).2]
  unfold f_X8_adds_b33
  by_cases hz : pSo A G Sc ns nt p
  · have hz' : pSo A G Sc ns nt (p.1, p.2) := hz
    rw [if_pos hz', if_neg (by decide), if_pos hz, xchk_t _ b6, xchk_t _ b6, xlet_e, nI_clamp (by omega), xs_same, hR _ hix, nI_1, xs_ut (by omega)]
    exact ⟨_, rfl, hR.up hix⟩
  · have hz' : ¬ pSo A G Sc ns nt (p.1, p.2) := hz
    rw [if_neg hz', if_pos rfl, if_neg hz]
    exact ⟨R, rfl, hR⟩
theorem r_gr_in {N : xMem} {A G Sc : Nat → Int32} {ns nt s : Nat} {g : Int32} {k31 : Int32 → xMem → Option (Int32 × xMem)} (h : RT N A G Sc ns nt) : ∀ n t R pt, t ≤ 19 → 19 - t < n → rP6 R pt → ∃ R', f_X8_greatest_l42 g (nI s) k31 n (oI t) (xs N 8 31 R) = k31 (nI (s + 1)) (xs N 8 31 R') ∧ rP6 R' (cnt A ns g (fl (pSo A G Sc ns nt) (cF s (19 - t) t)) pt) := by
  intro n
  induction n with
  | zero => intro t R pt h1 h2; omega
  | succ n ih =>
    intro t R pt h1 h2 hR
    rw [f_X8_greatest_l42]
    by_cases ht : t = 19
    · subst ht
      rw [if_pos oI_gt, nI_1]
      exact ⟨R, rfl, hR⟩
    · have htl : t < 19 := by omega
      unfold f_X8_greatest_b59
      rw [show 19 - t = 19 - (t + 1) + 1 by omega, cF, if_neg (oI_le t htl), oI_s t htl]
      by_cases h9 : t = 9
      · rw [if_pos h9, if_pos ((oI_z t htl).mpr h9)]
        exact ih (t + 1) R pt (by omega) (by omega) hR
      · rw [if_neg h9, if_neg (fun q => h9 ((oI_z t htl).mp q))]
        obtain ⟨R1, g1, g2⟩ := r_adds (g := g) (p := (nI s, oI t)) h hR
        have g1' : f_X8_adds g (nI s) (oI t) (xs N 8 31 R) = some (xs N 8 31 R1) := g1
        rw [g1', xb1_e, fl, cnt_app]
        exact ih (t + 1) R1 _ (by omega) (by omega) g2
theorem r_gr {N : xMem} {A G Sc : Nat → Int32} {ns nt : Nat} {g : Int32} {R0 : Nat → Int32} (h : RT N A G Sc ns nt) : ∃ R, f_X8_greatest g (xs N 8 31 R0) = some (nI (mxN (cnt A ns g (fl (pSo A G Sc ns nt) ((-9, 0) :: cA ns 0)) (fun _ => 0)) 6), xs N 8 31 R) := by
  have h5 := h.2.1
  -- the last loop: the most of six
  have last : ∀ R pt, rP6 R pt → (∀ k, k < 6 → pt k ≤ 91) → f_X8_greatest_l75 (xs N 8 31 R) FU 0 0 = some (nI (mxN pt 6), xs N 8 31 R) := by
    intro R pt hR hb
    have key : ∀ n k, k ≤ 6 → 6 - k < n → f_X8_greatest_l75 (xs N 8 31 R) n (nI (mxN pt k)) (nI k) = some (nI (mxN pt 6), xs N 8 31 R) := by
      intro n
      induction n with
      | zero => intro k h1 h2; omega
      | succ n ih =>
        intro k h1 h2
        rw [f_X8_greatest_l75]
        by_cases hk : k = 6
        · subst hk
          rw [if_pos (by decide)]
        · have hlt : ¬ (6 : Int32) ≤ nI k := le_nI (a := k) (b := 6) (by omega) (by decide) (by omega)
          have b6 := xb_nI (show k < 6 by omega) (by decide)
          have hi := ih (k + 1) (by omega) (by omega)
          have hmx := mxN_le k (fun j hj => hb j (by omega))
          have hbk := hb k (by omega)
          unfold f_X8_greatest_b101
          rw [if_neg hlt, xchk_t _ b6, xchk_t _ b6, nI_clamp (by omega), xs_same, hR k (by omega), nI_1]
          rw [mxN] at hi
          by_cases hle : pt k ≤ mxN pt k
          · rw [if_pos (nI_le hle (by omega))]
            rw [Nat.max_eq_left hle] at hi
            exact hi
          · rw [if_neg (le_nI (by omega) (by omega) (by omega))]
            rw [Nat.max_eq_right (by omega)] at hi
            exact hi
    exact key FU 0 (by omega) (FU_gt (by omega))
  have key : ∀ n s R pt, s ≤ ns → ns - s < n → rP6 R pt → (∀ k, k < 6 → pt k + (cA (ns - s) s).length ≤ 91) → ∃ R', f_X8_greatest_l31 g n (nI s) (xs N 8 31 R) = some (nI (mxN (cnt A ns g (fl (pSo A G Sc ns nt) (cA (ns - s) s)) pt) 6), xs N 8 31 R') := by
    intro n
    induction n with
    | zero => intro s R pt h1 h2; omega
    | succ n ih =>
      intro s R pt h1 h2 hR hb
      rw [f_X8_greatest_l31, xs_ne _ _ _ _ (show ((8, 0) : Nat × Nat) ≠ (8, 31) by decide), h.1]
      by_cases hs : s = ns
      · subst hs
        rw [if_pos (i32_le_rfl _), Nat.sub_self, cA, fl, cnt]
        exact ⟨R, last R pt hR (fun k hk => by have := hb k hk; omega)⟩
      · rw [show ns - s = ns - (s + 1) + 1 by omega, cA] at hb ⊢
        rw [List.length_append] at hb
        rw [if_neg (le_nI (by omega) (by omega) (by omega)), ← oI_0]
        obtain ⟨R1, g1, g2⟩ := r_gr_in (s := s) (g := g) (k31 := f_X8_greatest_l31 g n) h FU 0 R pt (by omega) (FU_gt (by omega)) hR
        rw [Nat.sub_zero] at g2
        rw [g1, fl_app, cnt_app]
        refine ih (s + 1) R1 _ (by omega) (by omega) g2 (fun k hk => ?_)
        have q1 := cnt_le (A := A) (ns := ns) (g := g) (fl (pSo A G Sc ns nt) (cF s 19 0)) pt k
        have q2 := fl_len (pSo A G Sc ns nt) (cF s 19 0)
        have q3 := hb k hk
        omega
  have zero : ∀ n j R, j ≤ 6 → 6 - j < n → (∀ k, k < j → R k = 0) → ∃ R', f_X8_greatest_l2 g n (nI j) (xs N 8 31 R) = some (nI (mxN (cnt A ns g (fl (pSo A G Sc ns nt) ((-9, 0) :: cA ns 0)) (fun _ => 0)) 6), xs N 8 31 R') := by
    intro n
    induction n with
    | zero => intro j R h1 h2; omega
    | succ n ih =>
      intro j R h1 h2 hR
      rw [f_X8_greatest_l2]
      by_cases hj : j = 6
      · subst hj
        have hR6 : rP6 R (fun _ => 0) := hR
        obtain ⟨R1, g1, g2⟩ := r_adds (g := g) (p := (-9, 0)) h hR6
        have g1' : f_X8_adds g (-9) 0 (xs N 8 31 R) = some (xs N 8 31 R1) := g1
        rw [if_pos (by decide), g1', xb1_e, fl, cnt_app]
        refine key FU 0 R1 _ (by omega) (FU_gt (by omega)) g2 (fun k hk => ?_)
        have q1 := cnt_le (A := A) (ns := ns) (g := g) (if pSo A G Sc ns nt (-9, 0) then [((-9 : Int32), (0 : Int32))] else []) (fun _ => 0) k
        have q2 := cA_len ns 0
        have q3 : (if pSo A G Sc ns nt (-9, 0) then [((-9 : Int32), (0 : Int32))] else []).length ≤ 1 := by
          split
          · exact Nat.le_refl _
          · exact Nat.zero_le _
        rw [Nat.sub_zero]
        omega
      · have hlt : ¬ (6 : Int32) ≤ nI j := le_nI (a := j) (b := 6) (by omega) (by decide) (by omega)
        rw [if_neg hlt, xchk_t _ (xb_nI (show j < 6 by omega) (by decide)), xlet_e, xs_ut (by omega), nI_1]
        refine ih (j + 1) _ (by omega) (by omega) (fun k hk => ?_)
        rw [upd_e]
        by_cases hkj : k = j
        · rw [if_pos hkj]
        · rw [if_neg hkj]; exact hR k (by omega)
  exact zero FU 0 R0 (by omega) (FU_gt (by omega)) (fun k hk => absurd hk (by omega))
/-! the weight to try: the first of the least -/
def nxS (gr : Nat → Int32) (i0 : Int32) : Nat → Int32 × Int32
  | 0 => (-9, i0)
  | g + 1 => if (nxS gr i0 g).1 = -9 ∨ ¬ (nxS gr i0 g).2 ≤ gr (g + 1) then (nI (g + 1), gr (g + 1)) else nxS gr i0 g
theorem nxS_i {gr : Nat → Int32} {i0 i1 : Int32} : ∀ g, nxS gr i0 (g + 1) = nxS gr i1 (g + 1)
  | 0 => by
    have e : ∀ i : Int32, nxS gr i (0 + 1) = (nI (0 + 1), gr (0 + 1)) := fun i => by rw [nxS, if_pos (Or.inl (show (nxS gr i 0).1 = -9 from rfl))]
    rw [e i0, e i1]
  | g + 1 => by rw [nxS, nxS_i g, ← nxS]
theorem nxS_in {gr : Nat → Int32} {i0 : Int32} : ∀ g, (nxS gr i0 g).1 = -9 ∨ ∃ j, j ≤ g ∧ (nxS gr i0 g).1 = nI j
  | 0 => Or.inl rfl
  | g + 1 => by
    rw [nxS]
    split
    · exact Or.inr ⟨g + 1, Nat.le_refl _, rfl⟩
    · rcases nxS_in (gr := gr) (i0 := i0) g with h | ⟨j, hj, h⟩
      · exact Or.inl h
      · exact Or.inr ⟨j, by omega, h⟩
theorem s_next : S_next Rel := by
  intro M L h
  obtain ⟨ns, ne, hT, hF, hP, hI, ⟨nt, hnt, hx1, hx2, hx3⟩, hl, hL⟩ := id h
  obtain ⟨h5, h6, t3, t4, t5, t6, tS, tE⟩ := id hT
  obtain ⟨M1, g1, g2⟩ := e_find t3 h5 hx1 hnt
  have hr := rX_RT hT hnt hx2 hx3
  have hlen := fl_len (pSo (M 3 3) (M 7 2) (M 7 3) ns nt) ((-9, 0) :: cA ns 0)
  have hlen2 := cA_len ns 0
  rw [List.length_cons] at hlen
  obtain ⟨wl, hwl⟩ : ∃ wl, wl = fl (pSo (M 3 3) (M 7 2) (M 7 3) ns nt) ((-9, 0) :: cA ns 0) := ⟨_, rfl⟩
  rw [← hwl] at g2 hlen
  have hR1 : Rel M1 L := h.same g2.sm
  have o8 : M1 8 = M 8 := g2.1 8 (by decide)
  have w4 := g2.2.2.2.1
  obtain ⟨gr, hgr⟩ : ∃ gr : Nat → Int32, gr = fun g => nI (mxN (cnt (M 3 3) ns (nI g) wl (fun _ => 0)) 6) := ⟨_, rfl⟩
  have s78 : ∀ R, smR M1 (xs M1 7 8 R) := fun R => by
    unfold smR
    refine ⟨?_, ?_, ?_, ?_, ?_, ?_, ?_, ?_, fun i h1 h2 => ?_, ?_, ?_, ?_, ?_, ?_, ?_, ?_, ?_, ?_, ?_, ?_, ?_, ?_, ?_, ?_⟩ <;> first | (simp [xs, va_up]; done) | (rw [xs_o (by omega)])
  have s831 : ∀ (N : xMem) R, smR N (xs N 8 31 R) := fun N R => by
    unfold smR
    refine ⟨?_, ?_, ?_, ?_, ?_, ?_, ?_, ?_, fun i h1 h2 => ?_, ?_, ?_, ?_, ?_, ?_, ?_, ?_, ?_, ?_, ?_, ?_, ?_, ?_, ?_, ?_⟩ <;> first | (simp [xs, va_up]; done) | (rw [xs_o (by omega)])
  by_cases h2 : wl.length ≤ 1
  · have hle1 : nI wl.length ≤ (1 : Int32) := nI_le (b := 1) h2 (by decide)
    have hle2 : ¬ (2 : Int32) ≤ nI wl.length := le_nI (a := wl.length) (b := 2) (by omega) (by decide) (by omega)
    have q1 : f_X5_weightToTry M1 = some (-9, M1) := by
      unfold f_X5_weightToTry
      rw [show FU = 99999 + 1 from rfl, f_X5_weightToTry_l10, if_neg (by decide), w4, if_pos hle1]
      rfl
    have hr1 : RT M1 (M 3 3) (M 7 2) (M 7 3) ns nt := hr.of (by rw [o8]) (by rw [o8]) (by rw [o8])
    refine ⟨-9, M1, M1, ?_, ?_, hR1⟩
    · unfold f_X7_next; rw [g1, xb1_e, q1, xb2_e]
    · unfold f_X8_next; rw [r_allWays hr1, ← hwl, xb1_e, if_neg hle2]
  · have keyC : ∀ n g R, 1 ≤ g → g ≤ 100 → 100 - g < n → ∃ R', f_X5_weightToTry_l10 n (nxS gr (nI wl.length) (g - 1)).1 (nxS gr (nI wl.length) (g - 1)).2 (nI g) (xs M1 7 8 R) = some ((nxS gr (nI wl.length) 99).1, xs M1 7 8 R') := by
      intro n
      induction n with
      | zero => intro g R k1 k2 k3; omega
      | succ n ih =>
        intro g R k1 k2 k3
        have e6 : xs M1 7 8 R 7 0 6 = nI wl.length := by rw [xs_ne _ _ _ _ (by decide)]; exact w4
        rw [f_X5_weightToTry_l10, e6]
        unfold f_X5_weightToTry_b54
        by_cases hg : g = 100
        · subst hg
          rw [if_pos (by decide)]
          exact ⟨R, rfl⟩
        · have hg1 : ¬ (99 : Int32) < nI g := fun q => by have := (nI_ltI (a := 99) (b := g) (by decide) (by omega)).mp q; omega
          have hw1 : ¬ nI wl.length ≤ 1 := le_nI (a := 1) (b := wl.length) (by decide) (by omega) (by omega)
          obtain ⟨R1, q1⟩ := e_gpart (g := nI g) (R0 := R) g2 (by omega) t3 h5
          have q1' : f_X5_greatestPart (nI g) (xs M1 7 8 R) = some (gr g, xs M1 7 8 R1) := by rw [hgr]; exact q1
          unfold f_X5_weightToTry_b43 f_X5_weightToTry_b48
          rw [if_neg hg1, if_neg hw1, q1', xb2_e, nI_1]
          have hi := ih (g + 1) R1 (by omega) (by omega) (by omega)
          rw [Nat.add_sub_cancel] at hi
          obtain ⟨j, rfl⟩ : ∃ j, g = j + 1 := ⟨g - 1, by omega⟩
          rw [Nat.add_sub_cancel]
          rw [nxS] at hi
          by_cases h9 : (nxS gr (nI wl.length) j).1 = -9
          · rw [if_pos h9]
            rw [if_pos (Or.inl h9)] at hi
            exact hi
          · rw [if_neg h9]
            by_cases hle : (nxS gr (nI wl.length) j).2 ≤ gr (j + 1)
            · rw [if_pos hle]
              rw [if_neg (fun q => q.elim h9 (fun z => z hle))] at hi
              exact hi
            · rw [if_neg hle]
              rw [if_pos (Or.inr hle)] at hi
              exact hi
    obtain ⟨R, c1⟩ := keyC FU 1 (M1 7 8) (by omega) (by omega) (FU_gt (by omega))
    rw [xs_self] at c1
    have e8 : xs M1 7 8 R 8 = M 8 := by rw [xs_o (by decide), o8]
    have hr2 : RT (xs M1 7 8 R) (M 3 3) (M 7 2) (M 7 3) ns nt := hr.of (by rw [e8]) (by rw [e8]) (by rw [e8])
    obtain ⟨N, hN⟩ : ∃ N, N = xs M1 7 8 R := ⟨_, rfl⟩
    rw [← hN] at hr2 c1
    have keyR : ∀ n g Q, 1 ≤ g → g ≤ 100 → 100 - g < n → ∃ Q', f_X8_next_l18 n (nxS gr 0 (g - 1)).1 (nxS gr 0 (g - 1)).2 (nI g) (xs N 8 31 Q) = some ((nxS gr 0 99).1, xs N 8 31 Q') := by
      intro n
      induction n with
      | zero => intro g R k1 k2 k3; omega
      | succ n ih =>
        intro g Q k1 k2 k3
        rw [f_X8_next_l18]
        by_cases hg : g = 100
        · subst hg
          rw [if_pos (by decide)]
          exact ⟨Q, rfl⟩
        · have hg1 : ¬ (99 : Int32) < nI g := fun q => by have := (nI_ltI (a := 99) (b := g) (by decide) (by omega)).mp q; omega
          obtain ⟨Q1, q1⟩ := r_gr (g := nI g) (R0 := Q) hr2
          have q1' : f_X8_greatest (nI g) (xs N 8 31 Q) = some (gr g, xs N 8 31 Q1) := by rw [hgr, hwl]; exact q1
          unfold f_X8_next_b41 f_X8_next_b46 f_X8_next_b58 f_X8_next_b70
          rw [if_neg hg1, q1', xb2_e, nI_1]
          have hi := ih (g + 1) Q1 (by omega) (by omega) (by omega)
          rw [Nat.add_sub_cancel] at hi
          obtain ⟨j, rfl⟩ : ∃ j, g = j + 1 := ⟨g - 1, by omega⟩
          rw [Nat.add_sub_cancel]
          rw [nxS] at hi
          have hng : (nxS gr 0 j).1 < 0 ↔ (nxS gr 0 j).1 = -9 := by
            rcases nxS_in (gr := gr) (i0 := 0) j with q | ⟨z, hz, q⟩
            · rw [q]; decide
            · rw [q]; exact ⟨fun y => absurd y (nI_pos (by omega)), fun y => absurd y (n9_neg (by omega))⟩
          by_cases h9 : (nxS gr 0 j).1 = -9
          · rw [if_pos (hng.mpr h9), if_neg (by decide), if_neg (by decide)]
            rw [if_pos (Or.inl h9)] at hi
            exact hi
          · rw [if_neg (fun y => h9 (hng.mp y))]
            by_cases hle : (nxS gr 0 j).2 ≤ gr (j + 1)
            · rw [if_pos hle, if_pos rfl, if_pos rfl]
              rw [if_neg (fun q => q.elim h9 (fun z => z hle))] at hi
              exact hi
            · rw [if_neg hle, if_neg (by decide), if_neg (by decide)]
              rw [if_pos (Or.inr hle)] at hi
              exact hi
    obtain ⟨Q, c2⟩ := keyR FU 1 (N 8 31) (by omega) (by omega) (FU_gt (by omega))
    rw [xs_self] at c2
    refine ⟨(nxS gr (nI wl.length) 99).1, N, xs N 8 31 Q, ?_, ?_, (by rw [hN]; exact hR1.same (s78 R) : Rel N L).same (s831 N Q)⟩
    · unfold f_X7_next f_X5_weightToTry
      rw [g1, xb1_e, w4]
      have c1' : f_X5_weightToTry_l10 FU (-9) (nI wl.length) 1 M1 = some ((nxS gr (nI wl.length) 99).1, N) := c1
      rw [c1', xb2_e]
    · unfold f_X8_next
      have c2' : f_X8_next_l18 FU (-9) 0 1 N = some ((nxS gr 0 99).1, xs N 8 31 Q) := c2
      have h2' : (2 : Int32) ≤ nI wl.length := nI_le (a := 2) (by omega) (by omega)
      rw [r_allWays hr2, ← hwl, xb1_e, if_pos h2', c2', nxS_i (i1 := nI wl.length) 98]
