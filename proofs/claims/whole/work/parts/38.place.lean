/-! placeOf, count -/
theorem or0 (a : Int32) : a ||| 0 = a := by apply b_ext; intro i hi; rw [b_or, b_0]; simp
theorem p_into {N n k : Nat} {o r w s : Nat → Int32} (hN : 13 ≤ N) (V : VF n o r w) (hF : FE n o r w s) (hk : k < n) : ∃ x, f_X0_waysTo N (nI k) w (nI n) = some x ∧ f_X4_into N (nI k) s = some x := by
  have hn := V.1
  obtain ⟨x, h1, h2⟩ := or_loop (fun m a j => f_X0_waysTo_L4 N (nI k) w (nI n) m a j) n (fun j => bt (w j) k) (fun m a => by simp only [f_X0_waysTo_L4]; rw [if_pos (Int32.le_refl _)]) hn (fun m a j hj => by
    obtain ⟨k1, k2, k3, k4⟩ := idx hj hn
    simp only [f_X0_waysTo_L4, if_neg k1, chk_t k2, k3, k4, f_contains (show k < 32 by omega), Option.bind_some]
    by_cases e0 : bt (w j) k = true
    · simp [e0]
    · simp [e0]) 0 N (by omega)
  obtain ⟨y, g1, g2⟩ := or_loop (fun m a j => f_X4_into_L4 N (nI k) s m a j) n (fun j => bt (w j) k) (fun m a => by simp only [f_X4_into_L4, chk_t g037, c0, hF.1]; rw [if_pos (Int32.le_refl _)]) hn (fun m a j hj => by
    obtain ⟨k1, k2, k3, k4⟩ := idx hj hn
    simp only [f_X4_into_L4, chk_t g037, c0, hF.1, if_neg k1, k4, p_hasWay (N := N) hF hj hn (show k < 32 by omega), Option.bind_some]
    by_cases e0 : bt (w j) k = true
    · simp [e0]
    · simp [e0, or0]) 0 N (by omega)
  have hxy : y = x := by
    apply b_ext
    intro i hi
    rw [g2 i hi, h2 i hi]
  subst hxy
  have h1 : f_X0_waysTo_L4 N (nI k) w (nI n) N 0 0 = some y := h1
  have g1 : f_X4_into_L4 N (nI k) s N 0 0 = some y := g1
  exact ⟨y, by simp only [f_X0_waysTo, h1, Option.bind_some], by simp only [f_X4_into, g1, Option.bind_some]⟩
theorem p_winner {N k : Nat} {R : Int32} (hk : k < 32) : f_X4_winner N R (nI k) = some (if bt R k = true then 0 else 1) := by
  simp only [f_X4_winner, bt_get hk]
  split <;> rfl
theorem set_ge {n : Nat} {R : Int32} (hn : n ≤ 12) (h : Sub n R) : (0 : Int32) ≤ R := by
  obtain ⟨v, hv, rfl⟩ := nat_of (h.mono hn)
  exact (nI_leI (a := 0) (by omega) (by omega)).mpr (Nat.zero_le _)
theorem step_placeOf {N : Nat} (hN : 13000000 ≤ N) (x1 : Int32) (x2 : Int32) {S : XS} {M : MS} (h : Rel S M) : ∃ (r : Int32) (S2 : XS) (M2 : MS), x_placeOf N x1 x2 S = some (r, S2) ∧ m_placeOf N x1 x2 M = some (r, M2) ∧ Rel S2 M2 := by
  obtain ⟨⟨n, hz, V, hF, hw, hc⟩, hRH, hRK, hRT⟩ := h
  have hn := V.1
  obtain ⟨R, -, hR⟩ := p_winsOf0 (N := N) (by omega) V
  have hw' : ¬ S.2.1 10 = 0 → S.2.1 11 = R := fun h => win_uniq V (hw h) hR
  rcases c_place (N := N) x1 hn hF.1 with ⟨k, hk, rfl, a1, a2⟩ | ⟨a1, a2⟩
  · obtain ⟨k1, k2, k3, k4⟩ := idx hk hn
    obtain ⟨z1, z2, z3, s1, s2, s3⟩ := idm hF hk hn
    rcases in_dec (N := N) (a := 0) (b := 5) x2 (by omega) (by omega) with ⟨j, -, hj, rfl, b1⟩ | ⟨b1, b2⟩
    · have b1 : f_X4_in N (nI j) 0 5 = some 1 := b1
      rcases (show j = 0 ∨ j = 1 ∨ j = 2 ∨ j = 3 ∨ j = 4 ∨ j = 5 by omega) with rfl | rfl | rfl | rfl | rfl | rfl
      · refine mk_step (r := S.2.2 0 k) (by simp only [x_placeOf, f_X3_placeOf, hz, a1, i10, Option.bind_some, if_pos (show nI 0 = 0 from rfl), chk_t k2, k3]; rfl) (by simp only [m_placeOf, f_X4_placeOf, a2, b1, i10, Option.bind_some, if_pos (show nI 0 = 0 from rfl), m1, chk_t z1, s1]; rfl) ?_
        exact ⟨⟨n, hz, V, hF, hw, hc⟩, hRH, hRK, hRT⟩
      · refine mk_step (r := S.2.2 1 k) (by simp only [x_placeOf, f_X3_placeOf, hz, a1, i10, Option.bind_some, if_neg (show ¬ nI 1 = 0 by decide), if_pos (show nI 1 = 1 from rfl), chk_t k2, k3]; rfl) (by simp only [m_placeOf, f_X4_placeOf, a2, b1, i10, Option.bind_some, if_neg (show ¬ nI 1 = 0 by decide), if_pos (show nI 1 = 1 from rfl), m13, chk_t z2, s2]; rfl) ?_
        exact ⟨⟨n, hz, V, hF, hw, hc⟩, hRH, hRK, hRT⟩
      · refine mk_step (r := S.2.2 2 k) (by simp only [x_placeOf, f_X3_placeOf, hz, a1, i10, Option.bind_some, if_neg (show ¬ nI 2 = 0 by decide), if_neg (show ¬ nI 2 = 1 by decide), if_pos (show nI 2 = 2 from rfl), chk_t k2, k3]; rfl) (by simp only [m_placeOf, f_X4_placeOf, a2, b1, i10, Option.bind_some, if_neg (show ¬ nI 2 = 0 by decide), if_neg (show ¬ nI 2 = 1 by decide), if_pos (show nI 2 = 2 from rfl), m25, chk_t z3, s3]; rfl) ?_
        exact ⟨⟨n, hz, V, hF, hw, hc⟩, hRH, hRK, hRT⟩
      · obtain ⟨x, e1, e2⟩ := p_into (N := N) (by omega) V hF hk
        refine mk_step (r := x) (by simp only [x_placeOf, f_X3_placeOf, hz, a1, i10, Option.bind_some, if_neg (show ¬ nI 3 = 0 by decide), if_neg (show ¬ nI 3 = 1 by decide), if_neg (show ¬ nI 3 = 2 by decide), if_pos (show nI 3 = 3 from rfl), e1]; rfl) (by simp only [m_placeOf, f_X4_placeOf, a2, b1, i10, Option.bind_some, if_neg (show ¬ nI 3 = 0 by decide), if_neg (show ¬ nI 3 = 1 by decide), if_neg (show ¬ nI 3 = 2 by decide), if_pos (show nI 3 = 3 from rfl), e2]; rfl) ?_
        exact ⟨⟨n, hz, V, hF, hw, hc⟩, hRH, hRK, hRT⟩
      · obtain ⟨wk1, e1, e2⟩ := p_findWinners (N := N) (by omega) V hR hw'
        have e4 := p_winnerFrom (N := N) (k := k) (R := R) (by omega)
        obtain ⟨g, y1, y3, y5, e3⟩ := p_won (meas := M.2 4) (a1 := M.1 3) (a3 := M.1 4) (a5 := M.1 5) hN V hF hR
        refine mk_step (r := if bt R k = true then 0 else 1) (by simp only [x_placeOf, f_X3_placeOf, hz, a1, i10, Option.bind_some, if_neg (show ¬ nI 4 = 0 by decide), if_neg (show ¬ nI 4 = 1 by decide), if_neg (show ¬ nI 4 = 2 by decide), if_neg (show ¬ nI 4 = 3 by decide), if_pos (show nI 4 = 4 from rfl), e2, e4]; rfl) (by simp only [m_placeOf, f_X4_placeOf, a2, b1, i10, Option.bind_some, if_neg (show ¬ nI 4 = 0 by decide), if_neg (show ¬ nI 4 = 1 by decide), if_neg (show ¬ nI 4 = 2 by decide), if_neg (show ¬ nI 4 = 3 by decide), if_pos (show nI 4 = 4 from rfl), e3, p_winner (show k < 32 by omega)]; rfl) ?_
        exact ⟨⟨n, hz, V, hF, fun _ => hR, fun h => ⟨(hc h).1, e1⟩⟩, hRH, hRK, hRT⟩
      · obtain ⟨o', r', w', z', wk1, wv1, ck1, ch1, e1, e5, e2, e3, e4⟩ := p_findChoices (N := N) (ot := S.2.2 18) (rt := S.2.2 19) (wt := S.2.2 20) (z := S.2.1 6) (by omega) V hR hw' hc
        obtain ⟨s', g, y1, y3, y5, ch2, ws2, d1, d2, d3, -⟩ := p_chooses (meas := M.2 4) (a1 := M.1 3) (a3 := M.1 4) (a5 := M.1 5) (ch := M.2 5) (ws := M.2 6) hN V hF hR
        refine mk_step (r := ch1 k) (by simp only [x_placeOf, f_X3_placeOf, hz, a1, i10, Option.bind_some, if_neg (show ¬ nI 5 = 0 by decide), if_neg (show ¬ nI 5 = 1 by decide), if_neg (show ¬ nI 5 = 2 by decide), if_neg (show ¬ nI 5 = 3 by decide), if_neg (show ¬ nI 5 = 4 by decide), if_pos (show nI 5 = 5 from rfl), e1, chk_t k2, k3]; rfl) (by simp only [m_placeOf, f_X4_placeOf, a2, b1, i10, Option.bind_some, if_neg (show ¬ nI 5 = 0 by decide), if_neg (show ¬ nI 5 = 1 by decide), if_neg (show ¬ nI 5 = 2 by decide), if_neg (show ¬ nI 5 = 3 by decide), if_neg (show ¬ nI 5 = 4 by decide), f_X4_choiceAt, d1, if_pos (set_ge hn hR.1), chk_t k2, k3, ← cho_uniq V e4 d3 k hk]; rfl) ?_
        exact ⟨⟨n, hz, V, d2, fun _ => Eq.subst (motive := fun t => WinS n (S.2.2 0) (S.2.2 1) (S.2.2 2) t) e2.symm hR, fun _ => ⟨e4, e5⟩⟩, hRH, hRK, hRT⟩
    · have b1 : f_X4_in N x2 0 5 = some 0 := b1
      have d0 : ¬ x2 = 0 := b2 0 (by omega) (by omega)
      have d1 : ¬ x2 = 1 := b2 1 (by omega) (by omega)
      have d2 : ¬ x2 = 2 := b2 2 (by omega) (by omega)
      have d3 : ¬ x2 = 3 := b2 3 (by omega) (by omega)
      have d4 : ¬ x2 = 4 := b2 4 (by omega) (by omega)
      have d5 : ¬ x2 = 5 := b2 5 (by omega) (by omega)
      refine mk_step (r := -1) (by simp only [x_placeOf, f_X3_placeOf, hz, a1, i10, Option.bind_some, if_neg d0, if_neg d1, if_neg d2, if_neg d3, if_neg d4, if_neg d5]; rfl) (by simp only [m_placeOf, f_X4_placeOf, a2, b1, i10, i00, Option.bind_some]; rfl) ?_
      exact ⟨⟨n, hz, V, hF, hw, hc⟩, hRH, hRK, hRT⟩
  · refine mk_step (r := -1) (by simp only [x_placeOf, f_X3_placeOf, hz, a1, i00, Option.bind_some]; rfl) (by simp only [m_placeOf, f_X4_placeOf, a2, i00, Option.bind_some]; rfl) ?_
    exact ⟨⟨n, hz, V, hF, hw, hc⟩, hRH, hRK, hRT⟩
theorem p_manyWays {N n : Nat} {o r w s : Nat → Int32} (hN : 13 ≤ N) (V : VF n o r w) (hF : FE n o r w s) : ∃ x, f_X0_numberOfWays N w (nI n) = some x ∧ f_X4_manyWays N s = some x := by
  have hn := V.1
  obtain ⟨x, h1, h2⟩ := for_inv (fun m j a => f_X0_numberOfWays_L4 N w (nI n) m a j) n (fun j (a : Int32) => a = nI (su (fun v => cn (bt (w v)) 12) j)) (fun a => a = nI (su (fun v => cn (bt (w v)) 12) n))
    (fun m a ha => ⟨a, by simp only [f_X0_numberOfWays_L4]; rw [if_pos (Int32.le_refl _)], ha⟩)
    (fun m j a hj ha => Or.inr ⟨nI (su (fun v => cn (bt (w v)) 12) (j + 1)), by
      obtain ⟨k1, k2, k3, k4⟩ := idx hj hn
      subst ha
      simp only [f_X0_numberOfWays_L4, if_neg k1, chk_t k2, k3, k4, f_bitCount (N := N) ((V.2 j hj).2.2.mono hn), Option.bind_some, nI_add, su], rfl⟩)
    0 N 0 (by omega) (by omega) rfl
  obtain ⟨y, g1, g2⟩ := for_inv (fun m j a => f_X4_manyWays_L4 N s m a j) n (fun j (a : Int32) => a = nI (su (fun v => cn (bt (w v)) 12) j)) (fun a => a = nI (su (fun v => cn (bt (w v)) 12) n))
    (fun m a ha => ⟨a, by simp only [f_X4_manyWays_L4, chk_t g037, c0, hF.1]; rw [if_pos (Int32.le_refl _)], ha⟩)
    (fun m j a hj ha => Or.inr ⟨nI (su (fun v => cn (bt (w v)) 12) (j + 1)), by
      obtain ⟨k1, k2, k3, k4⟩ := idx hj hn
      obtain ⟨-, -, z3, -, -, s3⟩ := idm hF hj hn
      subst ha
      simp only [f_X4_manyWays_L4, chk_t g037, c0, hF.1, if_neg k1, m25, chk_t z3, s3, k4, p_ones (N := N) hN, Option.bind_some, nI_add, su], rfl⟩)
    0 N 0 (by omega) (by omega) rfl
  have h1 : f_X0_numberOfWays_L4 N w (nI n) N 0 0 = some x := h1
  have g1 : f_X4_manyWays_L4 N s N 0 0 = some y := g1
  exact ⟨x, by simp only [f_X0_numberOfWays, h1, Option.bind_some], by rw [f_X4_manyWays, g1, g2, ← h2]; rfl⟩
theorem p_dead {N n : Nat} {o r w s : Nat → Int32} (hN : 13 ≤ N) (V : VF n o r w) (hF : FE n o r w s) : ∃ x y, f_X0_endsOf N 0 o w (nI n) = some x ∧ f_X0_endsOf N 1 o w (nI n) = some y ∧ f_X4_dead N s = some (x ||| y) := by
  have hn := V.1
  obtain ⟨x, h1, h2⟩ := p_endsOf (N := N) (o := o) (w := w) (i := 0) hN hn
  obtain ⟨y, g1, g2⟩ := p_endsOf (N := N) (o := o) (w := w) (i := 1) hN hn
  obtain ⟨z, e1, e2⟩ := or_loop (fun m a j => f_X4_dead_L4 N s m a j) n (fun j => decide (w j = 0)) (fun m a => by simp only [f_X4_dead_L4, chk_t g037, c0, hF.1]; rw [if_pos (Int32.le_refl _)]) hn (fun m a j hj => by
    obtain ⟨k1, k2, k3, k4⟩ := idx hj hn
    obtain ⟨-, -, z3, -, -, s3⟩ := idm hF hj hn
    simp only [f_X4_dead_L4, chk_t g037, c0, hF.1, if_neg k1, m25, chk_t z3, s3, k4]
    by_cases e0 : w j = 0
    · simp [e0]
    · simp [e0, or0]) 0 N (by omega)
  refine ⟨x, y, h1, g1, ?_⟩
  have e1 : f_X4_dead_L4 N s N 0 0 = some z := e1
  have : z = x ||| y := by
    apply b_ext
    intro i hi
    rw [e2 i hi, b_or, h2 i hi, g2 i hi, b_0, Bool.false_or]
    by_cases hin : i < n
    · rcases (V.2 i hin).1 with e | e
      · rw [e]; simp
      · rw [e]; simp
    · simp [hin]
  simp only [f_X4_dead, e1, Option.bind_some, this]
def mxr (f : Nat → Nat) : Nat → Nat
  | 0 => 0
  | k + 1 => if mxr f k < f k then f k else mxr f k
theorem mxr_lt {f : Nat → Nat} {n c : Nat} (h : ∀ i, i < n → f i < c) (hc : 0 < c) : mxr f n < c := by
  induction n with
  | zero => exact hc
  | succ n ih =>
    have h1 := ih (fun i hi => h i (by omega))
    have h2 := h n (by omega)
    simp only [mxr]
    split <;> omega
theorem mxr_1 (f : Nat → Nat) : mxr f (0 + 1) = f 0 := by
  show (if 0 < f 0 then f 0 else 0) = f 0
  split <;> omega
theorem mxr_s (f : Nat → Nat) (j : Nat) : mxr f (j + 1) = if mxr f j < f j then f j else mxr f j := rfl
theorem p_greatest {N n : Nat} {o r w s : Nat → Int32} (hN : 13 ≤ N) (V : VF n o r w) (hF : FE n o r w s) : f_X0_greatestRank N r (nI n) = some (nI (mxr (rkN r) n)) ∧ f_X4_greatest N s = some (if n = 0 then -4 else nI (mxr (rkN r) n)) := by
  have hn := V.1
  have hb : ∀ j, j ≤ n → mxr (rkN r) j < 6 := fun j hj => mxr_lt (fun i hi => (V.2 i (by omega)).2.1.2) (by omega)
  constructor
  · obtain ⟨x, h1, h2⟩ := for_inv (fun m j a => f_X0_greatestRank_L4 N r (nI n) m a j) n (fun j (a : Int32) => a = nI (mxr (rkN r) j)) (fun a => a = nI (mxr (rkN r) n))
      (fun m a ha => ⟨a, by simp only [f_X0_greatestRank_L4]; rw [if_pos (Int32.le_refl _)], ha⟩)
      (fun m j a hj ha => Or.inr ⟨nI (mxr (rkN r) (j + 1)), by
        obtain ⟨k1, k2, k3, k4⟩ := idx hj hn
        subst ha
        have r1 := (V.2 j hj).2.1
        have hb1 := hb j (by omega)
        simp only [f_X0_greatestRank_L4, if_neg k1, chk_t k2, k3, k4, mxr]
        congr 1
        rw [r1.1]
        by_cases e : mxr (rkN r) j < rkN r j
        · rw [if_pos (nI_lt e (by omega)), if_pos e]
        · rw [if_neg (nI_nlt (by omega) (by omega)), if_neg e], rfl⟩)
      0 N 0 (by omega) (by omega) rfl
    have h1 : f_X0_greatestRank_L4 N r (nI n) N 0 0 = some x := h1
    simp only [f_X0_greatestRank, h1, Option.bind_some, h2]
  · obtain ⟨x, h1, h2⟩ := for_inv (fun m j a => f_X4_greatest_L5 N s m a j) n (fun j (a : Int32) => a = if j = 0 then -4 else nI (mxr (rkN r) j)) (fun a => a = if n = 0 then -4 else nI (mxr (rkN r) n))
      (fun m a ha => ⟨a, by simp only [f_X4_greatest_L5, chk_t g037, c0, hF.1]; rw [if_pos (Int32.le_refl _)], ha⟩)
      (fun m j a hj ha => Or.inr ⟨nI (mxr (rkN r) (j + 1)), by
        obtain ⟨k1, k2, k3, k4⟩ := idx hj hn
        obtain ⟨-, z2, -, -, s2, -⟩ := idm hF hj hn
        have r1 := (V.2 j hj).2.1
        have hb1 := hb j (by omega)
        simp only [f_X4_greatest_L5, chk_t g037, c0, hF.1, if_neg k1, m13, chk_t z2, s2, k4]
        rw [r1.1]
        by_cases e0 : j = 0
        · rw [if_pos e0] at ha
          subst ha
          have : ¬ nI (rkN r j) ≤ (-4 : Int32) := fun h => by
            rw [Int32.le_iff_toInt_le, nI_toInt (by omega)] at h
            have : (-4 : Int32).toInt = -4 := by decide
            omega
          rw [if_neg this]
          subst e0
          rw [mxr_1]
          rfl
        · rw [if_neg e0] at ha
          subst ha
          rw [mxr_s]
          by_cases e : mxr (rkN r) j < rkN r j
          · rw [if_neg (fun h => by have := (nI_leI (by omega) (by omega)).mp h; omega), if_pos e]; rfl
          · rw [if_pos ((nI_leI (by omega) (by omega)).mpr (by omega)), if_neg e]; rfl, by rw [if_neg (Nat.succ_ne_zero j)]⟩)
      0 N (-4) (by omega) (by omega) rfl
    have h1 : f_X4_greatest_L5 N s N (-4) 0 = some x := h1
    simp only [f_X4_greatest, h1, Option.bind_some, h2]
theorem all_sub {n : Nat} {R : Int32} (hn : n ≤ 12) (h : Sub n R) : (((1 : Int32) <<< (nI n &&& 31)) - 1) - R = (((1 : Int32) <<< (nI n &&& 31)) - 1) &&& (R ^^^ (-1)) := by
  have hb : ∀ i, i < 32 → bt (((1 : Int32) <<< (nI n &&& 31)) - 1) i = decide (i < n) := fun i hi => bt_all n (by omega) i hi
  generalize ((1 : Int32) <<< (nI n &&& 31)) - 1 = A at hb ⊢
  have e : A = (A &&& (R ^^^ (-1))) + R := by
    apply Int32.toBitVec_inj.mp
    rw [Int32.toBitVec_add, BitVec.add_eq_or_of_and_eq_zero]
    · rw [← Int32.toBitVec_or]
      congr 1
      apply b_ext
      intro i hi
      rw [b_or, b_diff hi, hb i hi]
      by_cases e : i < n
      · cases bt R i <;> simp [e]
      · rw [h i (by omega) hi]; simp [e]
    · rw [← Int32.toBitVec_and]
      show _ = (0 : Int32).toBitVec
      congr 1
      apply b_ext
      intro i hi
      rw [b_and, b_diff hi, b_0]
      cases bt R i <;> simp
  exact (congrArg (fun z => z - R) e).trans (Int32.add_sub_cancel _ _)
theorem step_count {N : Nat} (hN : 13000000 ≤ N) (x1 : Int32) {S : XS} {M : MS} (h : Rel S M) : ∃ (r : Int32) (S2 : XS) (M2 : MS), x_count N x1 S = some (r, S2) ∧ m_count N x1 M = some (r, M2) ∧ Rel S2 M2 := by
  obtain ⟨⟨n, hz, V, hF, hw, hc⟩, hRH, hRK, hRT⟩ := h
  have hn := V.1
  obtain ⟨R, -, hR⟩ := p_winsOf0 (N := N) (by omega) V
  have hw' : ¬ S.2.1 10 = 0 → S.2.1 11 = R := fun h => win_uniq V (hw h) hR
  obtain ⟨wk1, f1, f2⟩ := p_findWinners (N := N) (by omega) V hR hw'
  have f5 := p_wins0 (N := N) (z := nI n) (R := R)
  have f3 := p_wins1 (N := N) (z := nI n) (R := R)
  obtain ⟨g, y1, y3, y5, f4⟩ := p_won (meas := M.2 4) (a1 := M.1 3) (a3 := M.1 4) (a5 := M.1 5) hN V hF hR
  by_cases e0 : x1 = 0
  · refine mk_step (r := nI n) (by simp only [x_count, f_X3_count, hz, Option.bind_some, if_pos e0]; rfl) (by simp only [m_count, f_X4_count, Option.bind_some, if_pos e0, chk_t g037, c0, hF.1]; rfl) ?_
    exact ⟨⟨n, hz, V, hF, hw, hc⟩, hRH, hRK, hRT⟩
  by_cases e1 : x1 = 1
  · obtain ⟨x, d1, d2⟩ := p_manyWays (N := N) (by omega) V hF
    refine mk_step (r := x) (by simp only [x_count, f_X3_count, hz, Option.bind_some, if_neg e0, if_pos e1, d1]; rfl) (by simp only [m_count, f_X4_count, Option.bind_some, if_neg e0, if_pos e1, d2]; rfl) ?_
    exact ⟨⟨n, hz, V, hF, hw, hc⟩, hRH, hRK, hRT⟩
  by_cases e2 : x1 = 2
  · refine mk_step (r := R) (by simp only [x_count, f_X3_count, hz, Option.bind_some, if_neg e0, if_neg e1, if_pos e2, f2, f5]; rfl) (by simp only [m_count, f_X4_count, Option.bind_some, if_neg e0, if_neg e1, if_pos e2, f4]; rfl) ?_
    exact ⟨⟨n, hz, V, hF, fun _ => hR, fun h => ⟨(hc h).1, f1⟩⟩, hRH, hRK, hRT⟩
  by_cases e3 : x1 = 3
  · refine mk_step (r := ((1 <<< (nI n &&& 31)) - 1) &&& (R ^^^ (-1))) (by simp only [x_count, f_X3_count, hz, Option.bind_some, if_neg e0, if_neg e1, if_neg e2, if_pos e3, f2, f3]; rfl) (by simp only [m_count, f_X4_count, Option.bind_some, if_neg e0, if_neg e1, if_neg e2, if_pos e3, f_X4_all, chk_t g037, c0, hF.1, f4, all_sub hn hR.1]; rfl) ?_
    exact ⟨⟨n, hz, V, hF, fun _ => hR, fun h => ⟨(hc h).1, f1⟩⟩, hRH, hRK, hRT⟩
  by_cases e4 : x1 = 4
  · obtain ⟨x, y, d1, d2, d3⟩ := p_dead (N := N) (by omega) V hF
    refine mk_step (r := x ||| y) (by simp only [x_count, f_X3_count, hz, Option.bind_some, if_neg e0, if_neg e1, if_neg e2, if_neg e3, if_pos e4, d1, d2]; rfl) (by simp only [m_count, f_X4_count, Option.bind_some, if_neg e0, if_neg e1, if_neg e2, if_neg e3, if_pos e4, d3]; rfl) ?_
    exact ⟨⟨n, hz, V, hF, hw, hc⟩, hRH, hRK, hRT⟩
  by_cases e5 : x1 = 5
  · obtain ⟨d1, d2⟩ := p_greatest (N := N) (by omega) V hF
    by_cases en : n = 0
    · have en1 : nI n = 0 := by rw [en]; rfl
      refine mk_step (r := -4) (by simp only [x_count, f_X3_count, hz, Option.bind_some, if_neg e0, if_neg e1, if_neg e2, if_neg e3, if_neg e4, if_pos e5, if_pos en1]; rfl) (by simp only [m_count, f_X4_count, Option.bind_some, if_neg e0, if_neg e1, if_neg e2, if_neg e3, if_neg e4, if_pos e5, d2, if_pos en]; rfl) ?_
      exact ⟨⟨n, hz, V, hF, hw, hc⟩, hRH, hRK, hRT⟩
    · have en1 : ¬ nI n = 0 := nI_ne0 (by omega) (by omega)
      refine mk_step (r := nI (mxr (rkN (S.2.2 1)) n)) (by simp only [x_count, f_X3_count, hz, Option.bind_some, if_neg e0, if_neg e1, if_neg e2, if_neg e3, if_neg e4, if_pos e5, if_neg en1, d1]; rfl) (by simp only [m_count, f_X4_count, Option.bind_some, if_neg e0, if_neg e1, if_neg e2, if_neg e3, if_neg e4, if_pos e5, d2, if_neg en]; rfl) ?_
      exact ⟨⟨n, hz, V, hF, hw, hc⟩, hRH, hRK, hRT⟩
  by_cases e6 : x1 = 6
  · obtain ⟨t, ht, q1, q2, q3⟩ := hRH
    refine mk_step (r := nI t) (by simp only [x_count, f_X3_count, hz, Option.bind_some, if_neg e0, if_neg e1, if_neg e2, if_neg e3, if_neg e4, if_neg e5, if_pos e6, q1]; rfl) (by simp only [m_count, f_X4_count, Option.bind_some, if_neg e0, if_neg e1, if_neg e2, if_neg e3, if_neg e4, if_neg e5, if_pos e6, q2]; rfl) ?_
    exact ⟨⟨n, hz, V, hF, hw, hc⟩, ⟨t, ht, q1, q2, q3⟩, hRK, hRT⟩
  by_cases e7 : x1 = 7
  · obtain ⟨L, hL, q1, q2, q3⟩ := hRT
    refine mk_step (r := nI L) (by simp only [x_count, f_X3_count, hz, Option.bind_some, if_neg e0, if_neg e1, if_neg e2, if_neg e3, if_neg e4, if_neg e5, if_neg e6, if_pos e7, q1]; rfl) (by simp only [m_count, f_X4_count, Option.bind_some, if_neg e0, if_neg e1, if_neg e2, if_neg e3, if_neg e4, if_neg e5, if_neg e6, if_pos e7, q2]; rfl) ?_
    exact ⟨⟨n, hz, V, hF, hw, hc⟩, hRH, hRK, ⟨L, hL, q1, q2, q3⟩⟩
  by_cases e8 : x1 = 8
  · rcases hRK with ⟨q1, q2⟩ | ⟨q1, q2, q3⟩
    · refine mk_step (r := 0) (by simp only [x_count, f_X3_count, hz, Option.bind_some, if_neg e0, if_neg e1, if_neg e2, if_neg e3, if_neg e4, if_neg e5, if_neg e6, if_neg e7, if_pos e8, q1, if_true]; rfl) (by simp only [m_count, f_X4_count, Option.bind_some, if_neg e0, if_neg e1, if_neg e2, if_neg e3, if_neg e4, if_neg e5, if_neg e6, if_neg e7, if_pos e8, q2, if_true]; rfl) ?_
      exact ⟨⟨n, hz, V, hF, hw, hc⟩, hRH, Or.inl ⟨q1, q2⟩, hRT⟩
    · refine mk_step (r := 1) (by simp only [x_count, f_X3_count, hz, Option.bind_some, if_neg e0, if_neg e1, if_neg e2, if_neg e3, if_neg e4, if_neg e5, if_neg e6, if_neg e7, if_pos e8, q1, i10]; rfl) (by simp only [m_count, f_X4_count, Option.bind_some, if_neg e0, if_neg e1, if_neg e2, if_neg e3, if_neg e4, if_neg e5, if_neg e6, if_neg e7, if_pos e8, q2, i10]; rfl) ?_
      exact ⟨⟨n, hz, V, hF, hw, hc⟩, hRH, Or.inr ⟨q1, q2, q3⟩, hRT⟩
  refine mk_step (r := -1) (by simp only [x_count, f_X3_count, hz, Option.bind_some, if_neg e0, if_neg e1, if_neg e2, if_neg e3, if_neg e4, if_neg e5, if_neg e6, if_neg e7, if_neg e8]; rfl) (by simp only [m_count, f_X4_count, Option.bind_some, if_neg e0, if_neg e1, if_neg e2, if_neg e3, if_neg e4, if_neg e5, if_neg e6, if_neg e7, if_neg e8]; rfl) ?_
  exact ⟨⟨n, hz, V, hF, hw, hc⟩, hRH, hRK, hRT⟩
