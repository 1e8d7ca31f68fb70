/-- c is the most that the sets done so far give -/
def PM (ok : Nat → Prop) (m : Nat → Nat) (A c : Nat) (done : Nat → Prop) : Prop :=
  (∀ S, done S → S ≠ 0 → S &&& A = S → ok S → m (A - S) + 1 ≤ c) ∧ (c = 0 ∨ ∃ S, S ≠ 0 ∧ S &&& A = S ∧ ok S ∧ c = m (A - S) + 1)
theorem PM.skip {ok : Nat → Prop} {m : Nat → Nat} {A c P : Nat} {done done' : Nat → Prop} (h : PM ok m A c done) (hd : ∀ S, done' S → S &&& A = S → done S ∨ S = P) (hP : ¬ (P ≠ 0 ∧ P &&& A = P ∧ ok P ∧ c < m (A - P) + 1)) : PM ok m A c done' := by
  refine ⟨fun S h1 h2 h3 h4 => ?_, h.2⟩
  rcases hd S h1 h3 with q | q
  · exact h.1 S q h2 h3 h4
  · subst q
    rcases Nat.lt_or_ge c (m (A - S) + 1) with z | z
    · exact absurd ⟨h2, h3, h4, z⟩ hP
    · exact z
theorem PM.take {ok : Nat → Prop} {m : Nat → Nat} {A c P : Nat} {done done' : Nat → Prop} (h : PM ok m A c done) (hd : ∀ S, done' S → S &&& A = S → done S ∨ S = P) (h1 : P ≠ 0) (h2 : P &&& A = P) (h3 : ok P) (h4 : c ≤ m (A - P) + 1) : PM ok m A (m (A - P) + 1) done' := by
  refine ⟨fun S g1 g2 g3 g4 => ?_, Or.inr ⟨P, h1, h2, h3, rfl⟩⟩
  rcases hd S g1 g3 with q | q
  · have := h.1 S q g2 g3 g4
    omega
  · subst q; exact Nat.le_refl _
theorem PM.congr {ok : Nat → Prop} {m m' : Nat → Nat} {A c : Nat} {done : Nat → Prop} (h : PM ok m A c done) (hm : ∀ S, S ≠ 0 → S &&& A = S → m' (A - S) = m (A - S)) : PM ok m' A c done := by
  refine ⟨fun S h1 h2 h3 h4 => by rw [hm S h2 h3]; exact h.1 S h1 h2 h3 h4, ?_⟩
  rcases h.2 with q | ⟨S, h1, h2, h3, h4⟩
  · exact Or.inl q
  · exact Or.inr ⟨S, h1, h2, h3, by rw [hm S h1 h2]; exact h4⟩
theorem sub_le {S A : Nat} (h : S &&& A = S) : S ≤ A := by
  have := Nat.and_le_right (n := S) (m := A)
  omega
theorem xs_ut {M : xMem} {o r j : Nat} {R : Nat → Int32} {v : Int32} (hj : j < 2 ^ 31) : xst (xs M o r R) o r (nI j) v = xs M o r (upd R j v) := by
  unfold xst
  rw [xs_same, xs_xs, nI_clamp hj]
theorem upd_e {R : Nat → Int32} {j k : Nat} {v : Int32} : upd R j v k = if k = j then v else R k := rfl
theorem upd_upd {R : Nat → Int32} {j : Nat} {v v' : Int32} : upd (upd R j v) j v' = upd R j v' := by
  funext k
  rw [upd_e, upd_e, upd_e]
  by_cases h : k = j
  · rw [if_pos h, if_pos h]
  · rw [if_neg h, if_neg h, if_neg h]
/-- one set's answer, in the class -/
theorem e_most_in {M0 : xMem} {ne n A : Nat} {w : Int32} {R : Nat → Int32} {m : Nat → Nat} {k11 : Int32 → xMem → Option (Int32 × xMem)} (hne : M0 3 0 1 = nI ne) (h6 : ne ≤ 6) (hn : n ≤ 6) (hA : A < 64) (hR : ∀ a, a < A → R a = nI (m a) ∧ m a ≤ a) : ∃ c, c ≤ A ∧ PM (okC (M0 (0 + 9) 3) ne n w) m A c (fun _ => True) ∧ f_X1_mostBoxes_l28 (nI n) w (nI A) k11 FU 1 (xs M0 6 2 (upd R A 0)) = k11 (nI (A + 1)) (xs M0 6 2 (upd R A (nI c))) := by
  have key : ∀ f S c, 1 ≤ S → S ≤ A + 1 → A + 1 - S < f → c ≤ A → PM (okC (M0 (0 + 9) 3) ne n w) m A c (fun z => z < S) → ∃ c', c' ≤ A ∧ PM (okC (M0 (0 + 9) 3) ne n w) m A c' (fun _ => True) ∧ f_X1_mostBoxes_l28 (nI n) w (nI A) k11 f (nI S) (xs M0 6 2 (upd R A (nI c))) = k11 (nI (A + 1)) (xs M0 6 2 (upd R A (nI c'))) := by
    intro f
    induction f with
    | zero => intro S c h1 h2 h3; omega
    | succ f ih =>
      intro S c h1 h2 h3 hc hp
      rw [f_X1_mostBoxes_l28]
      by_cases hS : S = A + 1
      · refine ⟨c, hc, ⟨fun z _ g2 g3 g4 => hp.1 z (by have := sub_le g3; show z < S; omega) g2 g3 g4, hp.2⟩, ?_⟩
        rw [if_pos (nI_lt (by omega) (by omega)), nI_1]
      · have e3 : xs M0 6 2 (upd R A (nI c)) 3 0 1 = nI ne := by rw [xs_o (by decide)]; exact hne
        have e9 : xs M0 6 2 (upd R A (nI c)) (0 + 9) = M0 (0 + 9) := xs_o (by decide)
        have b64 := xb_nI hA (by decide)
        unfold f_X1_mostBoxes_b79
        rw [if_neg (fun q => hS (by have := (nI_ltI (by omega) (by omega)).mp q; omega)), e_isBox e3 h6 (by omega) hA hn, xb1_e, e9, nI_1]
        by_cases hok : S &&& A = S ∧ okC (M0 (0 + 9) 3) ne n w S
        · have eA : xs M0 6 2 (upd R A (nI c)) 6 2 A = nI c := by rw [xs_same, upd_e, if_pos rfl]
          have eB : xs M0 6 2 (upd R A (nI c)) 6 2 (A - S) = nI (m (A - S)) := by rw [xs_same, upd_e, if_neg (by omega)]; exact (hR _ (by omega)).1
          have hmb := (hR (A - S) (by omega)).2
          rw [if_pos hok, if_neg (by decide), xchk_t _ b64, rest_key S (by omega) A hA hok.1, xchk_t _ (xb_nI (show A - S < 64 by omega) (by decide)), xchk_t _ b64, xlet_e, nI_clamp (by omega), nI_clamp (by omega), eA, eB, nI_1]
          by_cases hlt : c < m (A - S) + 1
          · rw [if_pos (nI_lt hlt (by omega)), xs_ut (by omega), upd_upd]
            exact ih (S + 1) (m (A - S) + 1) (by omega) (by omega) (by omega) (by omega) (hp.take (P := S) (fun z (g : z < S + 1) _ => show z < S ∨ z = S by omega) (by omega) hok.1 hok.2 (by omega))
          · rw [if_neg (fun q => hlt ((nI_ltI (by omega) (by omega)).mp q)), xs_ut (by omega), upd_upd]
            exact ih (S + 1) c (by omega) (by omega) (by omega) hc (hp.skip (P := S) (fun z (g : z < S + 1) _ => show z < S ∨ z = S by omega) (fun q => hlt q.2.2.2))
        · rw [if_neg hok, if_pos rfl]
          exact ih (S + 1) c (by omega) (by omega) (by omega) hc (hp.skip (P := S) (fun z (g : z < S + 1) _ => show z < S ∨ z = S by omega) (fun q => hok ⟨q.2.1, q.2.2.1⟩))
  exact key FU 1 0 (by omega) (by omega) (FU_gt (by omega)) (by omega) ⟨fun z (g : z < 1) g2 => absurd g2 (by omega), Or.inl rfl⟩
def updN (m : Nat → Nat) (A c : Nat) : Nat → Nat := fun a => if a = A then c else m a
theorem e_most {M : xMem} {ns ne n : Nat} {w : Int32} (hns : M 3 0 0 = nI ns) (h5 : ns ≤ 5) (hne : M 3 0 1 = nI ne) (h6 : ne ≤ 6) (hn : n ≤ 6) (hv : vF ns ne (M (0 + 9))) : ∃ m R, (∀ A, A ≤ tN (M (0 + 9) 2) ne → PM (okC (M (0 + 9) 3) ne n w) m A (m A) (fun _ => True)) ∧ f_X1_mostBoxes (nI n) w M = some (nI (m (tN (M (0 + 9) 2) ne)), xs M 6 2 R) := by
  have hT : tN (M (0 + 9) 2) ne < 2 ^ ne := pEn_lt _ _ _
  have h64 : 2 ^ ne ≤ 64 := Nat.pow_le_pow_right (n := 2) (by decide) h6
  unfold f_X1_mostBoxes
  rw [e_trays hns h5 hne h6 hv, xb1_e]
  obtain ⟨T, hTd⟩ : ∃ T, T = tN (M (0 + 9) 2) ne := ⟨_, rfl⟩
  rw [← hTd] at hT ⊢
  have key : ∀ f A R m, A ≤ T + 1 → T + 1 - A < f → (∀ a, a < A → R a = nI (m a) ∧ m a ≤ a ∧ PM (okC (M (0 + 9) 3) ne n w) m a (m a) (fun _ => True)) → ∃ m' R', (∀ A, A ≤ T → PM (okC (M (0 + 9) 3) ne n w) m' A (m' A) (fun _ => True)) ∧ f_X1_mostBoxes_l11 (nI n) w (nI T) f (nI A) (xs M 6 2 R) = some (nI (m' T), xs M 6 2 R') := by
    intro f
    induction f with
    | zero => intro A R m h1 h2; omega
    | succ f ih =>
      intro A R m h1 h2 hR
      rw [f_X1_mostBoxes_l11]
      by_cases hA : A = T + 1
      · refine ⟨m, R, fun a ha => (hR a (by omega)).2.2, ?_⟩
        rw [if_pos (nI_lt (by omega) (by omega)), xchk_t _ (xb_nI (show T < 64 by omega) (by decide)), nI_clamp (by omega), xs_same, (hR T (by omega)).1]
      · rw [if_neg (fun q => hA (by have := (nI_ltI (by omega) (by omega)).mp q; omega)), xchk_t _ (xb_nI (show A < 64 by omega) (by decide)), xlet_e, xs_ut (by omega)]
        obtain ⟨c, hc, hp, he⟩ := e_most_in (M0 := M) (w := w) (R := R) (m := m) (k11 := f_X1_mostBoxes_l11 (nI n) w (nI T) f) hne h6 hn (show A < 64 by omega) (fun a ha => ⟨(hR a ha).1, (hR a ha).2.1⟩)
        rw [he]
        refine ih (A + 1) _ (updN m A c) (by omega) (by omega) (fun a ha => ?_)
        by_cases haA : a = A
        · subst haA
          have e1 : updN m a c a = c := if_pos rfl
          rw [upd_e, if_pos rfl, e1]
          refine ⟨rfl, hc, hp.congr (fun S g1 g2 => if_neg (by have := sub_le g2; omega))⟩
        · have e1 : updN m A c a = m a := if_neg haA
          rw [upd_e, if_neg haA, e1]
          obtain ⟨g1, g2, g3⟩ := hR a (by omega)
          refine ⟨g1, g2, g3.congr (fun S q1 q2 => if_neg (by have := sub_le q2; omega))⟩
  obtain ⟨m', R', g1, g2⟩ := key FU 0 (M 6 2) (fun _ => 0) (by omega) (FU_gt (by omega)) (fun a ha => absurd ha (by omega))
  rw [xs_self] at g2
  exact ⟨m', R', g1, g2⟩
def dkS (A Q : Nat) : Nat → Bool
  | 0 => true
  | S + 1 => (if S &&& A = S then Nat.ble S Q else true) && dkS A Q S
def dkP (A : Nat) : Nat → Bool
  | 0 => true
  | P + 1 => (if (P + 1) &&& A = P + 1 then dkS A (P &&& A) (P + 1) else true) && dkP A P
def dkA : Nat → Bool
  | 0 => true
  | A + 1 => dkP A 63 && dkA A
theorem dkS_ok {A Q : Nat} : ∀ n, dkS A Q n = true → ∀ S, S < n → S &&& A = S → S ≤ Q
  | 0, _, S, hS, _ => absurd hS (by omega)
  | n + 1, h, S, hS, hA => by
    rw [dkS, Bool.and_eq_true] at h
    by_cases hn : S = n
    · subst hn
      rw [if_pos hA] at h
      exact Nat.le_of_ble_eq_true h.1
    · exact dkS_ok n h.2 S (by omega) hA
theorem dkP_ok {A : Nat} : ∀ n, dkP A n = true → ∀ P, P < n → (P + 1) &&& A = P + 1 → dkS A (P &&& A) (P + 1) = true
  | 0, _, S, hS, _ => absurd hS (by omega)
  | n + 1, h, S, hS, hA => by
    rw [dkP, Bool.and_eq_true] at h
    by_cases hn : S = n
    · subst hn
      rw [if_pos hA] at h
      exact h.1
    · exact dkP_ok n h.2 S (by omega) hA
theorem dkA_ok : ∀ n, dkA n = true → ∀ A, A < n → dkP A 63 = true
  | 0, _, S, hS => absurd hS (by omega)
  | n + 1, h, S, hS => by
    rw [dkA, Bool.and_eq_true] at h
    by_cases hn : S = n
    · subst hn
      exact h.1
    · exact dkA_ok n h.2 S (by omega)
theorem dkA_64 : dkA 64 = true := by decide +kernel
theorem down_key (A : Nat) (hA : A < 64) (P : Nat) (hP : P < 64) (S : Nat) (h : P &&& A = P ∧ P ≠ 0 ∧ S &&& A = S ∧ S < P) : S ≤ (P - 1) &&& A := by
  obtain ⟨h1, h2, h3, h4⟩ := h
  have hp := dkP_ok 63 (dkA_ok 64 dkA_64 A hA) (P - 1) (by omega) (by rw [show P - 1 + 1 = P by omega]; exact h1)
  rw [show P - 1 + 1 = P by omega] at hp
  exact dkS_ok P hp S h4 h3
/-- one set's answer, in the reference -/
theorem r_most_in {N0 : xMem} {ns ne n A : Nat} {w : Int32} {R : Nat → Int32} {m : Nat → Nat} {F : Nat → Nat → Int32} {k33 : Int32 → xMem → Option (Int32 × xMem)} (hF : rF ns ne F (N0 8 7) 0) (hW : ∀ e, e < ne → ∃ w, w ≤ 99 ∧ F 3 e = nI w) (hne : N0 8 0 4 = nI ne) (h6 : ne ≤ 6) (hn : n ≤ 6) (hA : A < 2 ^ ne) (hR : ∀ a, a < A → R a = nI (m a) ∧ m a ≤ a) : ∃ c, c ≤ A ∧ PM (fun S => S &&& tN (F 2) ne = S ∧ okC (F 3) ne n w S) m A c (fun _ => True) ∧ f_X8_boxes_l51 (nI n) w (nI A) k33 FU (nI A) (xs N0 8 30 (upd R A 0)) = k33 (nI (A + 1)) (xs N0 8 30 (upd R A (nI c))) := by
  have h64 : 2 ^ ne ≤ 64 := Nat.pow_le_pow_right (n := 2) (by decide) h6
  have key : ∀ f P c, P < f → P &&& A = P → c ≤ A → PM (fun S => S &&& tN (F 2) ne = S ∧ okC (F 3) ne n w S) m A c (fun z => P < z) → ∃ c', c' ≤ A ∧ PM (fun S => S &&& tN (F 2) ne = S ∧ okC (F 3) ne n w S) m A c' (fun _ => True) ∧ f_X8_boxes_l51 (nI n) w (nI A) k33 f (nI P) (xs N0 8 30 (upd R A (nI c))) = k33 (nI (A + 1)) (xs N0 8 30 (upd R A (nI c'))) := by
    intro f
    induction f with
    | zero => intro P c h1; omega
    | succ f ih =>
      intro P c h1 hPA hc hp
      have hPle := sub_le hPA
      rw [f_X8_boxes_l51]
      by_cases hP : P = 0
      · subst hP
        refine ⟨c, hc, ⟨fun z _ g2 g3 g4 => hp.1 z (show 0 < z by omega) g2 g3 g4, hp.2⟩, ?_⟩
        rw [if_pos (by decide), nI_1]
      · have e4 : xs N0 8 30 (upd R A (nI c)) 8 0 4 = nI ne := by rw [xs_ne _ _ _ _ (by decide)]; exact hne
        have e7 : rF ns ne F (xs N0 8 30 (upd R A (nI c)) 8 7) 0 := by rw [xs_ne _ _ _ _ (by decide)]; exact hF
        have eA : xs N0 8 30 (upd R A (nI c)) 8 30 A = nI c := by rw [xs_same, upd_e, if_pos rfl]
        have eB : xs N0 8 30 (upd R A (nI c)) 8 30 (A - P) = nI (m (A - P)) := by rw [xs_same, upd_e, if_neg (by omega)]; exact (hR _ (by omega)).1
        have hmb := (hR (A - P) (by omega)).2
        have b64 := xb_nI (show A < 64 by omega) (by decide)
        have b64' := xb_nI (show A - P < 64 by omega) (by decide)
        have hnext : (nI P - 1) &&& nI A = nI ((P - 1) &&& A) := by
          rw [show (1 : Int32) = nI 1 from rfl, nI_sb (by omega), and_key _ (by omega) _ (by omega)]
        have hlt1 : (P - 1) &&& A < P := by
          have := Nat.and_le_left (n := P - 1) (m := A)
          omega
        have hsub : ((P - 1) &&& A) &&& A = (P - 1) &&& A := by rw [Nat.and_assoc, Nat.and_self]
        have hd : ∀ S, (P - 1) &&& A < S → S &&& A = S → P < S ∨ S = P := fun S g1 g2 => by
          rcases Nat.lt_or_ge S P with z | z
          · have := down_key A (by omega) P (by omega) S ⟨hPA, hP, g2, z⟩
            omega
          · omega
        unfold f_X8_boxes_b93 f_X8_boxes_b94 f_X8_boxes_b129
        rw [if_neg (nI_nle (by omega) (by omega)), e_boxed e7 e4 h6 (by omega) hn, xb1_e, nI_sb hPle, xchk_t _ b64', xchk_t _ b64, xchk_t _ b64, xchk_t _ b64', xchk_t _ b64, xchk_t _ b64, nI_clamp (by omega), nI_clamp (by omega), eA, eB, nI_1, hnext]
        have hskip : PM (fun S => S &&& tN (F 2) ne = S ∧ okC (F 3) ne n w S) m A c (fun z => (P - 1) &&& A < z) → ∃ c', c' ≤ A ∧ PM (fun S => S &&& tN (F 2) ne = S ∧ okC (F 3) ne n w S) m A c' (fun _ => True) ∧ xlet (xst (xs N0 8 30 (upd R A (nI c))) 8 30 (nI A) (nI c)) (fun M129 => f_X8_boxes_l51 (nI n) w (nI A) k33 f (nI (P - 1 &&& A)) M129) = k33 (nI (A + 1)) (xs N0 8 30 (upd R A (nI c'))) := fun hp' => by
          rw [xlet_e, xs_ut (by omega), upd_upd]
          exact ih _ c (by omega) hsub hc hp'
        by_cases hok : P &&& tN (F 2) ne = P ∧ okC (F 3) ne n w P
        · obtain ⟨g, hg1, hg2⟩ := gI_n (S := P) hW
          have hg : ¬ gI (F 3) P ne < 0 := by rw [hg2]; exact nI_pos (by omega)
          rw [if_pos hok, if_neg hg]
          by_cases hlt : c < m (A - P) + 1
          · rw [if_neg (le_nI (by omega) (by omega) hlt), if_neg (by decide), xlet_e, xs_ut (by omega), upd_upd]
            exact ih _ (m (A - P) + 1) (by omega) hsub (by omega) (hp.take (P := P) hd hP hPA hok (by omega))
          · rw [if_pos (nI_le (by omega) (by omega)), if_pos rfl]
            exact hskip (hp.skip (P := P) hd (fun q => hlt q.2.2.2))
        · rw [if_neg hok, if_pos (by decide), if_pos rfl]
          exact hskip (hp.skip (P := P) hd (fun q => hok q.2.2.1))
  exact key FU A 0 (FU_gt (by omega)) (Nat.and_self A) (by omega) ⟨fun z (g : A < z) g2 g3 => absurd (sub_le g3) (by omega), Or.inl rfl⟩
theorem r_most {N : xMem} {ns ne n : Nat} {w : Int32} {F : Nat → Nat → Int32} (hF : rF ns ne F (N 8 7) 0) (hW : ∀ e, e < ne → ∃ w, w ≤ 99 ∧ F 3 e = nI w) (hne : N 8 0 4 = nI ne) (h6 : ne ≤ 6) (hn : n ≤ 6) : ∃ m R, (∀ A, A < 2 ^ ne → PM (fun S => S &&& tN (F 2) ne = S ∧ okC (F 3) ne n w S) m A (m A) (fun _ => True)) ∧ f_X8_boxes_l33 (nI n) w N FU 0 N = some (nI (m (2 ^ ne - 1)), xs N 8 30 R) := by
  have h64 : 2 ^ ne ≤ 64 := Nat.pow_le_pow_right (n := 2) (by decide) h6
  have h0 : 0 < 2 ^ ne := Nat.two_pow_pos ne
  have key : ∀ f A R m, A ≤ 2 ^ ne → 2 ^ ne - A < f → (∀ a, a < A → R a = nI (m a) ∧ m a ≤ a ∧ PM (fun S => S &&& tN (F 2) ne = S ∧ okC (F 3) ne n w S) m a (m a) (fun _ => True)) → ∃ m' R', (∀ A, A < 2 ^ ne → PM (fun S => S &&& tN (F 2) ne = S ∧ okC (F 3) ne n w S) m' A (m' A) (fun _ => True)) ∧ f_X8_boxes_l33 (nI n) w N f (nI A) (xs N 8 30 R) = some (nI (m' (2 ^ ne - 1)), xs N 8 30 R') := by
    intro f
    induction f with
    | zero => intro A R m h1 h2; omega
    | succ f ih =>
      intro A R m h1 h2 hR
      rw [f_X8_boxes_l33, hne, shl_key ne h6]
      by_cases hA : A = 2 ^ ne
      · refine ⟨m, R, fun a ha => (hR a (by omega)).2.2, ?_⟩
        rw [if_pos (by rw [hA]; exact i32_le_rfl _), show (1 : Int32) = nI 1 from rfl, nI_sb (by omega), xchk_t _ (xb_nI (show 2 ^ ne - 1 < 64 by omega) (by decide)), nI_clamp (by omega), xs_same, (hR (2 ^ ne - 1) (by omega)).1]
      · rw [if_neg (le_nI (by omega) (by omega) (by omega)), xchk_t _ (xb_nI (show A < 64 by omega) (by decide)), xlet_e, xs_ut (by omega)]
        obtain ⟨c, hc, hp, he⟩ := r_most_in (N0 := N) (w := w) (R := R) (m := m) (A := A) (k33 := f_X8_boxes_l33 (nI n) w N f) hF hW hne h6 hn (by omega) (fun a ha => ⟨(hR a ha).1, (hR a ha).2.1⟩)
        rw [he]
        refine ih (A + 1) _ (updN m A c) (by omega) (by omega) (fun a ha => ?_)
        by_cases haA : a = A
        · subst haA
          have e1 : updN m a c a = c := if_pos rfl
          rw [upd_e, if_pos rfl, e1]
          refine ⟨rfl, hc, hp.congr (fun S g1 g2 => if_neg (by have := sub_le g2; omega))⟩
        · have e1 : updN m A c a = m a := if_neg haA
          rw [upd_e, if_neg haA, e1]
          obtain ⟨g1, g2, g3⟩ := hR a (by omega)
          refine ⟨g1, g2, g3.congr (fun S q1 q2 => if_neg (by have := sub_le q2; omega))⟩
  obtain ⟨m', R', g1, g2⟩ := key FU 0 (N 8 30) (fun _ => 0) (by omega) (FU_gt (by omega)) (fun a ha => absurd ha (by omega))
  rw [xs_self] at g2
  exact ⟨m', R', g1, g2⟩
/-- both answers are one -/
theorem most_same {ok : Nat → Prop} {m m2 : Nat → Nat} {T U : Nat} (hT : T < 64) (hU : U ≤ 64) (h1 : ∀ A, A ≤ T → PM ok m A (m A) (fun _ => True)) (h2 : ∀ A, A < U → PM (fun S => S &&& T = S ∧ ok S) m2 A (m2 A) (fun _ => True)) : ∀ b A, A < b → A < U → m2 A = m (A &&& T) := by
  have hrest : ∀ A S, A < U → S &&& A = S → S &&& T = S → (A - S) &&& T = (A &&& T) - S := fun A S hA g1 g2 => by
    have hSA := sub_le g1
    have hAT : A &&& T < 64 := by have := Nat.and_le_left (n := A) (m := T); omega
    have g3 : S &&& (A &&& T) = S := by rw [← Nat.and_assoc, g1, g2]
    rw [xor_key S (by omega) A (by omega) g1, xor_key S (by omega) (A &&& T) hAT g3, Nat.and_xor_distrib_right, g2]
  intro b
  induction b with
  | zero => intro A h; omega
  | succ b ih =>
    intro A hAb hA
    have p2 := h2 A hA
    have p1 := h1 (A &&& T) Nat.and_le_right
    apply Nat.le_antisymm
    · rcases p2.2 with q | ⟨S, q1, q2, q3, q4⟩
      · omega
      · have hSA := sub_le q2
        have g3 : S &&& (A &&& T) = S := by rw [← Nat.and_assoc, q2, q3.1]
        have e := ih (A - S) (by omega) (by omega)
        rw [hrest A S hA q2 q3.1] at e
        rw [q4, e]
        exact p1.1 S trivial q1 g3 q3.2
    · rcases p1.2 with q | ⟨S, q1, q2, q3, q4⟩
      · omega
      · have g1 : S &&& A = S := Nat.le_antisymm Nat.and_le_left (by
          have : (S &&& A) &&& T = S := by rw [Nat.and_assoc]; exact q2
          have z := Nat.and_le_left (n := S &&& A) (m := T)
          omega)
        have g2 : S &&& T = S := Nat.le_antisymm Nat.and_le_left (by
          have : (S &&& T) &&& A = S := by rw [Nat.and_assoc, Nat.and_comm T A]; exact q2
          have z := Nat.and_le_left (n := S &&& T) (m := A)
          omega)
        have hSA := sub_le g1
        have e := ih (A - S) (by omega) (by omega)
        rw [hrest A S hA g1 g2] at e
        rw [q4, ← e]
        exact p2.1 S trivial q1 g1 ⟨g2, q3⟩
theorem all_key : ∀ ne, ne ≤ 6 → ∀ T, T < 2 ^ ne → (2 ^ ne - 1) &&& T = T := by decide +kernel
theorem s_boxes : S_boxes Rel := by
  intro a1 a2 M L h
  obtain ⟨ns, ne, hT, hF, hP, hI, hX, hl, hL⟩ := id h
  obtain ⟨h5, h6, t3, t4, t5, t6, tS, tE⟩ := id hT
  by_cases hq : oob a1 1 6
  · refine ⟨-1, M, M, ?_, ?_, h⟩
    · unfold f_X7_boxes; rw [e_noBox, xb1_e, if_pos (Or.inl hq)]; rfl
    · unfold f_X8_boxes; rw [e_in, xb1_e, if_pos hq]; rfl
  by_cases hq2 : oob a2 0 600
  · refine ⟨-1, M, M, ?_, ?_, h⟩
    · unfold f_X7_boxes; rw [e_noBox, xb1_e, if_pos (Or.inr hq2)]; rfl
    · unfold f_X8_boxes; rw [e_in, xb1_e, if_neg hq, if_neg (by decide), e_in, xb1_e, if_pos hq2]; rfl
  have hqq : ¬ (oob a1 1 6 ∨ oob a2 0 600) := fun q => q.elim hq hq2
  obtain ⟨n, hn1, hn, rfl⟩ := in_1 (n := 6) 6 (by decide) (by decide) hq
  have hT2 : tN (M (0 + 9) 2) ne < 2 ^ ne := pEn_lt _ _ _
  have h64 : 2 ^ ne ≤ 64 := Nat.pow_le_pow_right (n := 2) (by decide) h6
  have hW : ∀ e, e < ne → ∃ w, w ≤ 99 ∧ M (0 + 9) 3 e = nI w := fun e he => by
    obtain ⟨w, -, w2, w3⟩ := (hF.2.1 e he).2
    exact ⟨w, w2, w3⟩
  obtain ⟨m, R, g1, g2⟩ := e_most (w := a2) t3 h5 t4 h6 hn hF.2
  have o8 : xs M 6 2 R 8 = M 8 := xs_o (by decide)
  obtain ⟨m2, R2, k1, k2⟩ := r_most (N := xs M 6 2 R) (w := a2) (n := n) (F := M (0 + 9)) (by rw [o8]; exact hF.1) hW (by rw [o8]; exact t6) h6 hn
  have hsame := most_same (by omega) h64 g1 k1 (2 ^ ne) (2 ^ ne - 1) (by omega) (by omega)
  rw [all_key ne h6 _ hT2] at hsame
  refine ⟨nI (m (tN (M (0 + 9) 2) ne)), xs M 6 2 R, xs (xs M 6 2 R) 8 30 R2, ?_, ?_, h.same ?_⟩
  · unfold f_X7_boxes
    rw [e_noBox, xb1_e, if_neg hqq, if_pos rfl, g2, xb2_e]
  · unfold f_X8_boxes
    rw [e_in, xb1_e, if_neg hq, if_neg (by decide), e_in, xb1_e, if_neg hq2, if_neg (by decide), k2, hsame]
  · unfold smR
    refine ⟨?_, ?_, ?_, ?_, ?_, ?_, ?_, ?_, fun i h1 h2 => ?_, ?_, ?_, ?_, ?_, ?_, ?_, ?_, ?_, ?_, ?_, ?_, ?_, ?_, ?_, ?_⟩ <;> first | (simp [xs, va_up]; done) | (rw [xs_o (by omega), xs_o (by omega)])
