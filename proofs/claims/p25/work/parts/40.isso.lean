/-! the law looks at the places and the numbers -/
theorem ones_dec0 : ∀ a, a < 64 → ∀ b, b < 64 → 64 * a + b ≠ 0 → cn (bt (nI (64 * a + b) &&& (nI (64 * a + b) - 1))) 12 + 1 = cn (bt (nI (64 * a + b))) 12 := by decide +kernel
theorem ones_dec {x : Int32} (h : Sub 12 x) (h0 : ¬ x = 0) : cn (bt (x &&& (x - 1))) 12 + 1 = cn (bt x) 12 := by
  obtain ⟨v, hv, rfl⟩ := nat_of h
  have e : v = 64 * (v / 64) + v % 64 := by omega
  have hv0 : v ≠ 0 := fun e => h0 (by rw [e]; rfl)
  have := ones_dec0 (v / 64) (by omega) (v % 64) (by omega) (by omega)
  rw [← e] at this
  exact this
theorem p_ones {N : Nat} {x : Int32} (hN : 14 ≤ N) (h : Sub 12 x) : f_L_ones N x = some (nI (cn (bt x) 12)) := by
  have key : ∀ j m c x, Sub 12 x → cn (bt x) 12 = j → j < m → f_L_ones_L4 N m (nI c) x = some (nI (c + j)) := by
    intro j
    induction j with
    | zero =>
      intro m c x hs hc hm
      obtain ⟨m, rfl⟩ : ∃ m', m = m' + 1 := ⟨m - 1, by omega⟩
      have : x = 0 := by
        apply Classical.byContradiction
        intro h0
        obtain ⟨i, hi, hb⟩ := bt_ne h0
        have := cn_pos (hs.lt hb) hb
        omega
      rw [f_L_ones_L4, if_pos this]; rfl
    | succ j ih =>
      intro m c x hs hc hm
      obtain ⟨m, rfl⟩ : ∃ m', m = m' + 1 := ⟨m - 1, by omega⟩
      have h0 : ¬ x = 0 := fun e => by
        rw [e] at hc
        have : cn (bt 0) 12 = 0 := by decide
        omega
      have := ones_dec hs h0
      rw [f_L_ones_L4, if_neg h0, nI_1, ih m (c + 1) _ hs.and (by omega) (by omega)]
      congr 2; omega
  have h1 : f_L_ones_L4 N N 0 x = some (nI (0 + cn (bt x) 12)) := key _ N 0 x h rfl (by have := cn_le (bt x) 12; omega)
  simp only [f_L_ones, h1, Option.bind_some, Nat.zero_add]
theorem p_linto {N n k : Nat} {g e : Nat → Int32} (hN : 13 ≤ N) (hn : n ≤ 12) (hg : g 0 = nI n) (hk : k < n) : ∃ x, f_L_isSo_L45 N (nI k) g e N 0 0 = some x ∧ ∀ i, i < 32 → bt x i = (decide (i < n) && bt (e i) k) := by
  obtain ⟨x, h1, h2⟩ := or_loop (fun m a j => f_L_isSo_L45 N (nI k) g e m a j) n (fun j => bt (e j) k) (fun m a => by simp only [f_L_isSo_L45, chk_t g01, c00, hg]; rw [if_pos (Int32.le_refl _)]) hn (fun m a j hj => by
    obtain ⟨k1, k2, k3, k4⟩ := idx hj hn
    simp only [f_L_isSo_L45, chk_t g01, c00, hg, if_neg k1, chk_t k2, k3, k4, bt_get (show k < 32 by omega)]
    by_cases e0 : bt (e j) k = true
    · rw [if_pos e0, if_pos e0]
    · rw [if_neg e0, if_neg e0]
      congr 1
      have : (0 : Int32) <<< (nI j &&& 31) = 0 := by
        apply b_ext
        intro i hi
        rw [b_shl j (by omega) 0 hi, b_0, b_0, Bool.and_false]
      rw [this, or0]) 0 N (by omega)
  exact ⟨x, h1, fun i hi => by rw [h2 i hi, b_0, Bool.false_or]⟩
/-- the numbers so far -/
def IsI (n : Nat) (S : XS) (r e : Nat → Int32) (k : Nat) (a d m : Int32) (is : Int32) (S1 : XS) : Prop :=
  a = nI (su (fun v => cn (bt (e v)) 12) k) ∧ (∀ i, i < 32 → bt d i = (decide (i < k) && decide (e i = 0))) ∧ m = (if k = 0 then -4 else nI (mxr (rkN r) k)) ∧ is = 1 ∧ RS n S1 ∧ Same S S1
theorem p_isl {N n : Nat} {S : XS} {g w r e : Nat → Int32} {R : Int32} {nc : Nat} (hN : 100 ≤ N) (hn : n ≤ 8) (hg : g 0 = nI n) (hS : RS n S) (hq : ∀ k, k < n → w k = S.2.2 0 k ∧ r k = S.2.2 1 k ∧ e k = S.2.2 2 k) (hR : WinS n (S.2.2 0) (S.2.2 1) (S.2.2 2) R) (hnc : nc ≤ 103) :
    ∃ a d m is S2, f_L_isSo_L26 N R g w r e nc N 0 0 (-4) 1 0 S = some (a, d, m, is, S2) ∧ IsI n S r e n a d m is S2 := by
  have V := hS.2.1
  have V' : VF n w r e := VF_cong V hq
  have hdec : decide (nc + 0 ≤ 103) = true := decide_eq_true (by omega)
  have hb : ∀ j, j ≤ n → mxr (rkN r) j < 6 := fun j hj => mxr_lt (fun i hi => (V'.2 i (by omega)).2.1.2) (by omega)
  obtain ⟨st, s1, s2⟩ := for_inv (fun m k (st : Int32 × Int32 × Int32 × Int32 × XS) => f_L_isSo_L26 N R g w r e nc m st.1 st.2.1 st.2.2.1 st.2.2.2.1 k st.2.2.2.2) n
    (fun k st => IsI n S r e k st.1 st.2.1 st.2.2.1 st.2.2.2.1 st.2.2.2.2) (fun st => IsI n S r e n st.1 st.2.1 st.2.2.1 st.2.2.2.1 st.2.2.2.2)
    (fun m st h => ⟨st, by
      simp only [f_L_isSo_L26, chk_t g01, c00, hg]; rw [if_pos (Int32.le_refl _)], h⟩)
    (fun m k st hk h => by
      obtain ⟨a, d, mo, is, S1⟩ := st
      obtain ⟨j1, j2, j3, j4, j5, j6⟩ := h
      have i4 : is = 1 := j4
      subst i4
      have i1 : a = nI (su (fun v => cn (bt (e v)) 12) k) := j1
      have i2 : ∀ i, i < 32 → bt d i = (decide (i < k) && decide (e i = 0)) := j2
      have i3 : mo = (if k = 0 then -4 else nI (mxr (rkN r) k)) := j3
      have i5 : RS n S1 := j5
      have i6 : Same S S1 := j6
      obtain ⟨k1, k2, k3, k4⟩ := idx hk (show n ≤ 12 by omega)
      obtain ⟨q1, q2, q3⟩ := hq k hk
      obtain ⟨v1, ⟨v2, v3⟩, v4⟩ := V'.2 k hk
      obtain ⟨x, x1, x2⟩ := p_linto (N := N) (e := e) (by omega) (show n ≤ 12 by omega) hg hk
      have hon := p_ones (N := N) (x := e k) (by omega) (v4.mono (by omega))
      obtain ⟨T0, a0, b0, c0⟩ := q_pl0 (N := N) i5 hk
      obtain ⟨T1, a1, b1, c1⟩ := q_pl1 (N := N) b0 hk
      obtain ⟨T2, a2, b2, c2⟩ := q_pl2 (N := N) b1 hk
      obtain ⟨y, T3, a3, b3, c3, y2⟩ := q_pl3 (N := N) (by omega) b2 hk
      have s0 := i6
      have s1 := s0.tr c0
      have s2 := s1.tr c1
      have s3 := s2.tr c2
      have s4 := s3.tr c3
      have hR4 : WinS n (T3.2.2 0) (T3.2.2 1) (T3.2.2 2) R := by rw [s4.1.1, s4.1.2.1, s4.1.2.2]; exact hR
      obtain ⟨T4, a4, b4, c4⟩ := q_pl4 (N := N) (by omega) b3 hR4 hk
      obtain ⟨T5, a5, b5, c5⟩ := q_pl6 (N := N) b4 hk
      have s5 := s4.tr c4
      have s6 := s5.tr c5
      have e0 : S1.2.2 0 k = w k := by rw [s0.1.1, q1]
      have e1 : T0.2.2 1 k = r k := by rw [s1.1.2.1, q2]
      have e2 : T1.2.2 2 k = e k := by rw [s2.1.2.2, q3]
      have e3 : y = x := by
        apply b_ext
        intro i hi
        rw [y2 i hi, x2 i hi]
        by_cases hin : i < n
        · rw [s3.1.2.2, (hq i hin).2.2]
        · simp [hin]
      rw [e0] at a0
      rw [e1] at a1
      rw [e2] at a2
      rw [e3] at a3
      have e4 : (if bt R k = true then (0 : Int32) else 1) = 1 - (if bt R k = true then 1 else 0) := by cases bt R k <;> rfl
      have hbit : (1 : Int32) <<< (nI k &&& 31) = bit k := rfl
      refine Or.inr ⟨(nI (su (fun v => cn (bt (e v)) 12) (k + 1)), d ||| (if e k = 0 then bit k else 0), nI (mxr (rkN r) (k + 1)), 1, T5), ?_, rfl, fun i hi => ?_, by rw [if_neg (Nat.succ_ne_zero k)], rfl, b5, s6⟩
      · have hm : (if r k ≤ mo then some mo else some (r k)) = some (nI (mxr (rkN r) (k + 1))) := by
          have hb1 := hb k (by omega)
          rw [i3, v2]
          by_cases ek : k = 0
          · rw [if_pos ek]
            have : ¬ nI (rkN r k) ≤ (-4 : Int32) := fun h => by
              rw [Int32.le_iff_toInt_le, nI_toInt (by omega)] at h
              have : (-4 : Int32).toInt = -4 := by decide
              omega
            rw [if_neg this]
            subst ek
            rw [mxr_1]
          · rw [if_neg ek, mxr_s]
            by_cases e : mxr (rkN r) k < rkN r k
            · rw [if_neg (fun h => by have := (nI_leI (by omega) (by omega)).mp h; omega), if_pos e]
            · rw [if_pos ((nI_leI (by omega) (by omega)).mpr (by omega)), if_neg e]
        have hd : (if e k = 0 then some (bit k) else some (0 : Int32)) = some (if e k = 0 then bit k else 0) := by split <;> rfl
        have hsum : a + nI (cn (bt (e k)) 12) = nI (su (fun v => cn (bt (e v)) 12) (k + 1)) := by rw [i1, nI_add]; rfl
        simp only [f_L_isSo_L26, chk_t g01, c00, hg, if_neg k1, if_neg (show ¬ (1 : Int32) = 0 by decide), x1, Option.bind_some, chk_t k2, k3, chk_t hdec, hon, hbit, hd, hm, hsum, a0, a1, a2, a3, a4, a5, if_true, bt_get (show k < 32 by omega), e4, k4]
      · show bt (d ||| (if e k = 0 then bit k else 0)) i = _
        rw [b_or, i2 i hi]
        by_cases ei : i = k
        · subst ei
          by_cases e0 : e i = 0
          · rw [if_pos e0, show bt (bit i) i = _ from bt_bit (by omega) hi, e0]; simp
          · rw [if_neg e0, b_0]; simp [e0]
        · have e9 : decide (i < k + 1) = decide (i < k) := by simp; omega
          rw [e9]
          by_cases e0 : e k = 0
          · rw [if_pos e0, show bt (bit k) i = _ from bt_bit (by omega) hi, decide_eq_false ei, Bool.or_false]
          · rw [if_neg e0, b_0, Bool.or_false])
    0 N (0, 0, -4, 1, S) (by omega) (by omega) ⟨rfl, fun i hi => by rw [b_0]; simp, rfl, rfl, hS, Same.rf⟩
  exact ⟨_, _, _, _, _, s1, s2⟩
