/-! what the class tells -/
def su (f : Nat → Nat) : Nat → Nat
  | 0 => 0
  | k + 1 => su f k + f k
theorem or0 (a : Int32) : a ||| 0 = a := by apply b_ext; intro i hi; rw [b_or, b_0]; simp
/-- the field stands as it was -/
def Same (S S2 : XS) : Prop := (S2.2.2 0 = S.2.2 0 ∧ S2.2.2 1 = S.2.2 1 ∧ S2.2.2 2 = S.2.2 2) ∧ Tx S S2
theorem Same.rf {S : XS} : Same S S := ⟨⟨rfl, rfl, rfl⟩, rfl, rfl⟩
theorem Same.tr {S S2 S3 : XS} (h : Same S S2) (h' : Same S2 S3) : Same S S3 := ⟨⟨h'.1.1.trans h.1.1, h'.1.2.1.trans h.1.2.1, h'.1.2.2.trans h.1.2.2⟩, h'.2.1.trans h.2.1, h'.2.2.trans h.2.2⟩
theorem p_into {N n k : Nat} {w : Nat → Int32} (hN : 13 ≤ N) (hn : n ≤ 12) (hk : k < n) : ∃ x, f_X0_waysTo N (nI k) w (nI n) = some x ∧ ∀ i, i < 32 → bt x i = (decide (i < n) && bt (w i) k) := by
  obtain ⟨x, h1, h2⟩ := or_loop (fun m a j => f_X0_waysTo_L4 N (nI k) w (nI n) m a j) n (fun j => bt (w j) k) (fun m a => by simp only [f_X0_waysTo_L4]; rw [if_pos (Int32.le_refl _)]) hn (fun m a j hj => by
    obtain ⟨k1, k2, k3, k4⟩ := idx hj hn
    simp only [f_X0_waysTo_L4, if_neg k1, chk_t k2, k3, k4, f_contains (show k < 32 by omega), Option.bind_some]
    by_cases e0 : bt (w j) k = true
    · simp [e0]
    · simp [e0]) 0 N (by omega)
  have h1 : f_X0_waysTo_L4 N (nI k) w (nI n) N 0 0 = some x := h1
  exact ⟨x, by simp only [f_X0_waysTo, h1, Option.bind_some], fun i hi => by rw [h2 i hi, b_0, Bool.false_or]⟩
theorem p_manyWays {N n : Nat} {o r w : Nat → Int32} (hN : 13 ≤ N) (V : VF n o r w) : f_X0_numberOfWays N w (nI n) = some (nI (su (fun v => cn (bt (w v)) 12) n)) := by
  have hn := V.1
  obtain ⟨x, h1, h2⟩ := for_inv (fun m j a => f_X0_numberOfWays_L4 N w (nI n) m a j) n (fun j (a : Int32) => a = nI (su (fun v => cn (bt (w v)) 12) j)) (fun a => a = nI (su (fun v => cn (bt (w v)) 12) n))
    (fun m a ha => ⟨a, by simp only [f_X0_numberOfWays_L4]; rw [if_pos (Int32.le_refl _)], ha⟩)
    (fun m j a hj ha => Or.inr ⟨nI (su (fun v => cn (bt (w v)) 12) (j + 1)), by
      obtain ⟨k1, k2, k3, k4⟩ := idx hj hn
      subst ha
      simp only [f_X0_numberOfWays_L4, if_neg k1, chk_t k2, k3, k4, f_bitCount (N := N) ((V.2 j hj).2.2.mono hn), Option.bind_some, nI_add, su], rfl⟩)
    0 N 0 (by omega) (by omega) rfl
  have h1 : f_X0_numberOfWays_L4 N w (nI n) N 0 0 = some x := h1
  simp only [f_X0_numberOfWays, h1, Option.bind_some, h2]
theorem p_dead {N n : Nat} {o r w : Nat → Int32} (hN : 13 ≤ N) (V : VF n o r w) : ∃ x y, f_X0_endsOf N 0 o w (nI n) = some x ∧ f_X0_endsOf N 1 o w (nI n) = some y ∧ ∀ i, i < 32 → bt (x ||| y) i = (decide (i < n) && decide (w i = 0)) := by
  have hn := V.1
  obtain ⟨x, h1, h2⟩ := p_endsOf (N := N) (o := o) (w := w) (i := 0) hN hn
  obtain ⟨y, g1, g2⟩ := p_endsOf (N := N) (o := o) (w := w) (i := 1) hN hn
  refine ⟨x, y, h1, g1, fun i hi => ?_⟩
  rw [b_or, h2 i hi, g2 i hi]
  by_cases hin : i < n
  · rcases (V.2 i hin).1 with e | e
    · rw [e]; simp
    · rw [e]; simp
  · simp [hin]
def mxr (f : Nat → Nat) : Nat → Nat
  | 0 => 0
  | k + 1 => if mxr f k < f k then f k else mxr f k
theorem mxr_lt {f : Nat → Nat} {n c : Nat} (h : ∀ i, i < n → f i < c) (hc : 0 < c) : mxr f n < c := by
  induction n with
  | zero => exact hc
  | succ n ih =>
    have h1 := ih (fun i hi => h i (by omega))
    have h2 := h n (by omega)
    simp only [mxr]
    split <;> omega
theorem mxr_1 (f : Nat → Nat) : mxr f (0 + 1) = f 0 := by
  show (if 0 < f 0 then f 0 else 0) = f 0
  split <;> omega
theorem mxr_s (f : Nat → Nat) (j : Nat) : mxr f (j + 1) = if mxr f j < f j then f j else mxr f j := rfl
theorem p_greatest {N n : Nat} {o r w : Nat → Int32} (hN : 13 ≤ N) (V : VF n o r w) : f_X0_greatestRank N r (nI n) = some (nI (mxr (rkN r) n)) := by
  have hn := V.1
  have hb : ∀ j, j ≤ n → mxr (rkN r) j < 6 := fun j hj => mxr_lt (fun i hi => (V.2 i (by omega)).2.1.2) (by omega)
  obtain ⟨x, h1, h2⟩ := for_inv (fun m j a => f_X0_greatestRank_L4 N r (nI n) m a j) n (fun j (a : Int32) => a = nI (mxr (rkN r) j)) (fun a => a = nI (mxr (rkN r) n))
    (fun m a ha => ⟨a, by simp only [f_X0_greatestRank_L4]; rw [if_pos (Int32.le_refl _)], ha⟩)
    (fun m j a hj ha => Or.inr ⟨nI (mxr (rkN r) (j + 1)), by
      obtain ⟨k1, k2, k3, k4⟩ := idx hj hn
      subst ha
      have r1 := (V.2 j hj).2.1
      have hb1 := hb j (by omega)
      simp only [f_X0_greatestRank_L4, if_neg k1, chk_t k2, k3, k4, mxr]
      congr 1
      rw [r1.1]
      by_cases e : mxr (rkN r) j < rkN r j
      · rw [if_pos (nI_lt e (by omega)), if_pos e]
      · rw [if_neg (nI_nlt (by omega) (by omega)), if_neg e], rfl⟩)
    0 N 0 (by omega) (by omega) rfl
  have h1 : f_X0_greatestRank_L4 N r (nI n) N 0 0 = some x := h1
  simp only [f_X0_greatestRank, h1, Option.bind_some, h2]
theorem all_sub {n : Nat} {R : Int32} (hn : n ≤ 12) (h : Sub n R) : (((1 : Int32) <<< (nI n &&& 31)) - 1) - R = (((1 : Int32) <<< (nI n &&& 31)) - 1) &&& (R ^^^ (-1)) := by
  have hb : ∀ i, i < 32 → bt (((1 : Int32) <<< (nI n &&& 31)) - 1) i = decide (i < n) := fun i hi => bt_all n (by omega) i hi
  generalize ((1 : Int32) <<< (nI n &&& 31)) - 1 = A at hb ⊢
  have e : A = (A &&& (R ^^^ (-1))) + R := by
    apply Int32.toBitVec_inj.mp
    rw [Int32.toBitVec_add, BitVec.add_eq_or_of_and_eq_zero]
    · rw [← Int32.toBitVec_or]
      congr 1
      apply b_ext
      intro i hi
      rw [b_or, b_diff hi, hb i hi]
      by_cases e : i < n
      · cases bt R i <;> simp [e]
      · rw [h i (by omega) hi]; simp [e]
    · rw [← Int32.toBitVec_and]
      show _ = (0 : Int32).toBitVec
      congr 1
      apply b_ext
      intro i hi
      rw [b_and, b_diff hi, b_0]
      cases bt R i <;> simp
  exact (congrArg (fun z => z - R) e).trans (Int32.add_sub_cancel _ _)
theorem q_pl0 {N n k : Nat} {S : XS} (h : RS n S) (hk : k < n) : ∃ S2, x_placeOf N (nI k) 0 S = some (S.2.2 0 k, S2) ∧ RS n S2 ∧ Same S S2 := by
  obtain ⟨hz, V, hw, hc, hh⟩ := h
  have hn := V.1
  obtain ⟨k1, k2, k3, k4⟩ := idx hk hn
  refine mk1 (by simp only [x_placeOf, f_X3_placeOf, hz, e_has hn hk, i10, Option.bind_some, if_true, chk_t k2, k3]; rfl) ?_
  exact ⟨⟨hz, V, hw, hc, hh⟩, ⟨rfl, rfl, rfl⟩, rfl, rfl⟩
theorem q_pl1 {N n k : Nat} {S : XS} (h : RS n S) (hk : k < n) : ∃ S2, x_placeOf N (nI k) 1 S = some (S.2.2 1 k, S2) ∧ RS n S2 ∧ Same S S2 := by
  obtain ⟨hz, V, hw, hc, hh⟩ := h
  have hn := V.1
  obtain ⟨k1, k2, k3, k4⟩ := idx hk hn
  refine mk1 (by simp only [x_placeOf, f_X3_placeOf, hz, e_has hn hk, i10, Option.bind_some, if_neg (show ¬ (1 : Int32) = 0 by decide), if_true, chk_t k2, k3]; rfl) ?_
  exact ⟨⟨hz, V, hw, hc, hh⟩, ⟨rfl, rfl, rfl⟩, rfl, rfl⟩
theorem q_pl2 {N n k : Nat} {S : XS} (h : RS n S) (hk : k < n) : ∃ S2, x_placeOf N (nI k) 2 S = some (S.2.2 2 k, S2) ∧ RS n S2 ∧ Same S S2 := by
  obtain ⟨hz, V, hw, hc, hh⟩ := h
  have hn := V.1
  obtain ⟨k1, k2, k3, k4⟩ := idx hk hn
  refine mk1 (by simp only [x_placeOf, f_X3_placeOf, hz, e_has hn hk, i10, Option.bind_some, if_neg (show ¬ (2 : Int32) = 0 by decide), if_neg (show ¬ (2 : Int32) = 1 by decide), if_true, chk_t k2, k3]; rfl) ?_
  exact ⟨⟨hz, V, hw, hc, hh⟩, ⟨rfl, rfl, rfl⟩, rfl, rfl⟩
theorem q_pl3 {N n k : Nat} {S : XS} (hN : 14 ≤ N) (h : RS n S) (hk : k < n) : ∃ x S2, x_placeOf N (nI k) 3 S = some (x, S2) ∧ RS n S2 ∧ Same S S2 ∧ ∀ i, i < 32 → bt x i = (decide (i < n) && bt (S.2.2 2 i) k) := by
  obtain ⟨hz, V, hw, hc, hh⟩ := h
  have hn := V.1
  obtain ⟨x, e1, e2⟩ := p_into (N := N) (w := S.2.2 2) (by omega) hn hk
  refine ⟨x, mk1 (by simp only [x_placeOf, f_X3_placeOf, hz, e_has hn hk, i10, Option.bind_some, if_neg (show ¬ (3 : Int32) = 0 by decide), if_neg (show ¬ (3 : Int32) = 1 by decide), if_neg (show ¬ (3 : Int32) = 2 by decide), if_true, e1]; rfl) ?_⟩
  exact ⟨⟨hz, V, hw, hc, hh⟩, ⟨⟨rfl, rfl, rfl⟩, rfl, rfl⟩, e2⟩
theorem q_pl4 {N n k : Nat} {S : XS} {R : Int32} (hN : 14 ≤ N) (h : RS n S) (hR : WinS n (S.2.2 0) (S.2.2 1) (S.2.2 2) R) (hk : k < n) : ∃ S2, x_placeOf N (nI k) 4 S = some (if bt R k = true then 0 else 1, S2) ∧ RS n S2 ∧ Same S S2 := by
  obtain ⟨hz, V, hw, hc, hh⟩ := h
  have hn := V.1
  have hw' : ¬ S.2.1 10 = 0 → S.2.1 11 = R := fun h => win_uniq V (hw h) hR
  obtain ⟨wk1, e1, e2⟩ := p_findWinners (N := N) (by omega) V hR hw'
  have e4 := p_winnerFrom (N := N) (k := k) (R := R) (by omega)
  refine mk1 (by simp only [x_placeOf, f_X3_placeOf, hz, e_has hn hk, i10, Option.bind_some, if_neg (show ¬ (4 : Int32) = 0 by decide), if_neg (show ¬ (4 : Int32) = 1 by decide), if_neg (show ¬ (4 : Int32) = 2 by decide), if_neg (show ¬ (4 : Int32) = 3 by decide), if_true, e2, e4]; rfl) ?_
  exact ⟨⟨hz, V, fun _ => hR, fun h => ⟨(hc h).1, e1⟩, hh⟩, ⟨rfl, rfl, rfl⟩, rfl, rfl⟩
theorem q_pl5 {N n k : Nat} {S : XS} {R : Int32} (hN : 14 ≤ N) (h : RS n S) (hR : WinS n (S.2.2 0) (S.2.2 1) (S.2.2 2) R) (hk : k < n) : ∃ ch S2, x_placeOf N (nI k) 5 S = some (ch k, S2) ∧ RS n S2 ∧ Same S S2 ∧ ChoS n (S.2.2 0) (S.2.2 1) (S.2.2 2) ch := by
  obtain ⟨hz, V, hw, hc, hh⟩ := h
  have hn := V.1
  have hw' : ¬ S.2.1 10 = 0 → S.2.1 11 = R := fun h => win_uniq V (hw h) hR
  obtain ⟨k1, k2, k3, k4⟩ := idx hk hn
  obtain ⟨o', r', w', z', wk1, wv1, ck1, ch1, e1, e5, e2, e3, e4⟩ := p_findChoices (N := N) (ot := S.2.2 18) (rt := S.2.2 19) (wt := S.2.2 20) (z := S.2.1 6) (by omega) V hR hw' hc
  refine ⟨ch1, mk1 (by simp only [x_placeOf, f_X3_placeOf, hz, e_has hn hk, i10, Option.bind_some, if_neg (show ¬ (5 : Int32) = 0 by decide), if_neg (show ¬ (5 : Int32) = 1 by decide), if_neg (show ¬ (5 : Int32) = 2 by decide), if_neg (show ¬ (5 : Int32) = 3 by decide), if_neg (show ¬ (5 : Int32) = 4 by decide), if_true, e1, chk_t k2, k3]; rfl) ?_⟩
  exact ⟨⟨hz, V, fun _ => Eq.subst (motive := fun t => WinS n (S.2.2 0) (S.2.2 1) (S.2.2 2) t) e2.symm hR, fun _ => ⟨e4, e5⟩, hh⟩, ⟨⟨rfl, rfl, rfl⟩, rfl, rfl⟩, e4⟩
theorem q_pl6 {N n k : Nat} {S : XS} (h : RS n S) (hk : k < n) : ∃ S2, x_placeOf N (nI k) 6 S = some (-1, S2) ∧ RS n S2 ∧ Same S S2 := by
  obtain ⟨hz, V, hw, hc, hh⟩ := h
  have hn := V.1
  refine mk1 (by simp only [x_placeOf, f_X3_placeOf, hz, e_has hn hk, i10, Option.bind_some, if_neg (show ¬ (6 : Int32) = 0 by decide), if_neg (show ¬ (6 : Int32) = 1 by decide), if_neg (show ¬ (6 : Int32) = 2 by decide), if_neg (show ¬ (6 : Int32) = 3 by decide), if_neg (show ¬ (6 : Int32) = 4 by decide), if_neg (show ¬ (6 : Int32) = 5 by decide)]; rfl) ?_
  exact ⟨⟨hz, V, hw, hc, hh⟩, ⟨rfl, rfl, rfl⟩, rfl, rfl⟩
theorem q_pln {N n : Nat} {S : XS} (h : RS n S) : ∃ S2, x_placeOf N (nI n) 0 S = some (-1, S2) ∧ RS n S2 ∧ Same S S2 := by
  obtain ⟨hz, V, hw, hc, hh⟩ := h
  have hn := V.1
  refine mk1 (by simp only [x_placeOf, f_X3_placeOf, hz, e_hasn hn, i00, Option.bind_some]; rfl) ?_
  exact ⟨⟨hz, V, hw, hc, hh⟩, ⟨rfl, rfl, rfl⟩, rfl, rfl⟩
theorem q_plm {N n : Nat} {S : XS} (h : RS n S) : ∃ S2, x_placeOf N (-1) 0 S = some (-1, S2) ∧ RS n S2 ∧ Same S S2 := by
  obtain ⟨hz, V, hw, hc, hh⟩ := h
  refine mk1 (by simp only [x_placeOf, f_X3_placeOf, hz, e_hasm, i00, Option.bind_some]; rfl) ?_
  exact ⟨⟨hz, V, hw, hc, hh⟩, ⟨rfl, rfl, rfl⟩, rfl, rfl⟩
theorem q_co0 {N n : Nat} {S : XS} (hN : 14 ≤ N) (h : RS n S) : ∃ S2, x_count N 0 S = some (nI n, S2) ∧ RS n S2 ∧ Same S S2 := by
  obtain ⟨hz, V, hw, hc, hh⟩ := h
  have hn := V.1
  refine mk1 (by simp only [x_count, f_X3_count, hz, Option.bind_some, if_true]; rfl) ?_
  exact ⟨⟨hz, V, hw, hc, hh⟩, ⟨rfl, rfl, rfl⟩, rfl, rfl⟩
theorem q_co1 {N n : Nat} {S : XS} (hN : 14 ≤ N) (h : RS n S) : ∃ S2, x_count N 1 S = some (nI (su (fun v => cn (bt (S.2.2 2 v)) 12) n), S2) ∧ RS n S2 ∧ Same S S2 := by
  obtain ⟨hz, V, hw, hc, hh⟩ := h
  have hn := V.1
  have d1 := p_manyWays (N := N) (by omega) V
  refine mk1 (by simp only [x_count, f_X3_count, hz, Option.bind_some, if_neg (show ¬ (1 : Int32) = 0 by decide), if_true, d1]; rfl) ?_
  exact ⟨⟨hz, V, hw, hc, hh⟩, ⟨rfl, rfl, rfl⟩, rfl, rfl⟩
theorem q_co2 {N n : Nat} {S : XS} {R : Int32} (hN : 14 ≤ N) (h : RS n S) (hR : WinS n (S.2.2 0) (S.2.2 1) (S.2.2 2) R) : ∃ S2, x_count N 2 S = some (R, S2) ∧ RS n S2 ∧ Same S S2 := by
  obtain ⟨hz, V, hw, hc, hh⟩ := h
  have hn := V.1
  have hw' : ¬ S.2.1 10 = 0 → S.2.1 11 = R := fun h => win_uniq V (hw h) hR
  obtain ⟨wk1, f1, f2⟩ := p_findWinners (N := N) (by omega) V hR hw'
  have f5 := p_wins0 (N := N) (z := nI n) (R := R)
  refine mk1 (by simp only [x_count, f_X3_count, hz, Option.bind_some, if_neg (show ¬ (2 : Int32) = 0 by decide), if_neg (show ¬ (2 : Int32) = 1 by decide), if_true, f2, f5]; rfl) ?_
  exact ⟨⟨hz, V, fun _ => hR, fun h => ⟨(hc h).1, f1⟩, hh⟩, ⟨rfl, rfl, rfl⟩, rfl, rfl⟩
theorem q_co3 {N n : Nat} {S : XS} {R : Int32} (hN : 14 ≤ N) (h : RS n S) (hR : WinS n (S.2.2 0) (S.2.2 1) (S.2.2 2) R) : ∃ S2, x_count N 3 S = some (((1 <<< (nI n &&& 31)) - 1) &&& (R ^^^ (-1)), S2) ∧ RS n S2 ∧ Same S S2 := by
  obtain ⟨hz, V, hw, hc, hh⟩ := h
  have hn := V.1
  have hw' : ¬ S.2.1 10 = 0 → S.2.1 11 = R := fun h => win_uniq V (hw h) hR
  obtain ⟨wk1, f1, f2⟩ := p_findWinners (N := N) (by omega) V hR hw'
  have f5 := p_wins1 (N := N) (z := nI n) (R := R)
  refine mk1 (by simp only [x_count, f_X3_count, hz, Option.bind_some, if_neg (show ¬ (3 : Int32) = 0 by decide), if_neg (show ¬ (3 : Int32) = 1 by decide), if_neg (show ¬ (3 : Int32) = 2 by decide), if_true, f2, f5]; rfl) ?_
  exact ⟨⟨hz, V, fun _ => hR, fun h => ⟨(hc h).1, f1⟩, hh⟩, ⟨rfl, rfl, rfl⟩, rfl, rfl⟩
theorem q_co4 {N n : Nat} {S : XS} (hN : 14 ≤ N) (h : RS n S) : ∃ x S2, x_count N 4 S = some (x, S2) ∧ RS n S2 ∧ Same S S2 ∧ ∀ i, i < 32 → bt x i = (decide (i < n) && decide (S.2.2 2 i = 0)) := by
  obtain ⟨hz, V, hw, hc, hh⟩ := h
  have hn := V.1
  obtain ⟨x, y, d1, d2, d3⟩ := p_dead (N := N) (by omega) V
  refine ⟨x ||| y, mk1 (by simp only [x_count, f_X3_count, hz, Option.bind_some, if_neg (show ¬ (4 : Int32) = 0 by decide), if_neg (show ¬ (4 : Int32) = 1 by decide), if_neg (show ¬ (4 : Int32) = 2 by decide), if_neg (show ¬ (4 : Int32) = 3 by decide), if_true, d1, d2]; rfl) ?_⟩
  exact ⟨⟨hz, V, hw, hc, hh⟩, ⟨⟨rfl, rfl, rfl⟩, rfl, rfl⟩, d3⟩
theorem q_co5 {N n : Nat} {S : XS} (hN : 14 ≤ N) (h : RS n S) : ∃ S2, x_count N 5 S = some (if n = 0 then -4 else nI (mxr (rkN (S.2.2 1)) n), S2) ∧ RS n S2 ∧ Same S S2 := by
  obtain ⟨hz, V, hw, hc, hh⟩ := h
  have hn := V.1
  have d1 := p_greatest (N := N) (by omega) V
  by_cases en : n = 0
  · have en1 : nI n = 0 := by rw [en]; rfl
    rw [if_pos en]
    refine mk1 (by simp only [x_count, f_X3_count, hz, Option.bind_some, if_neg (show ¬ (5 : Int32) = 0 by decide), if_neg (show ¬ (5 : Int32) = 1 by decide), if_neg (show ¬ (5 : Int32) = 2 by decide), if_neg (show ¬ (5 : Int32) = 3 by decide), if_neg (show ¬ (5 : Int32) = 4 by decide), if_true, if_pos en1]; rfl) ?_
    exact ⟨⟨hz, V, hw, hc, hh⟩, ⟨rfl, rfl, rfl⟩, rfl, rfl⟩
  · have en1 : ¬ nI n = 0 := nI_ne0 (by omega) (by omega)
    rw [if_neg en]
    refine mk1 (by simp only [x_count, f_X3_count, hz, Option.bind_some, if_neg (show ¬ (5 : Int32) = 0 by decide), if_neg (show ¬ (5 : Int32) = 1 by decide), if_neg (show ¬ (5 : Int32) = 2 by decide), if_neg (show ¬ (5 : Int32) = 3 by decide), if_neg (show ¬ (5 : Int32) = 4 by decide), if_true, if_neg en1, d1]; rfl) ?_
    exact ⟨⟨hz, V, hw, hc, hh⟩, ⟨rfl, rfl, rfl⟩, rfl, rfl⟩
theorem q_co7 {N n : Nat} {S : XS} (hN : 14 ≤ N) (h : RS n S) : ∃ S2, x_count N 7 S = some (S.2.1 13, S2) ∧ RS n S2 ∧ Same S S2 := by
  obtain ⟨hz, V, hw, hc, hh⟩ := h
  have hn := V.1
  refine mk1 (by simp only [x_count, f_X3_count, hz, Option.bind_some, if_neg (show ¬ (7 : Int32) = 0 by decide), if_neg (show ¬ (7 : Int32) = 1 by decide), if_neg (show ¬ (7 : Int32) = 2 by decide), if_neg (show ¬ (7 : Int32) = 3 by decide), if_neg (show ¬ (7 : Int32) = 4 by decide), if_neg (show ¬ (7 : Int32) = 5 by decide), if_neg (show ¬ (7 : Int32) = 6 by decide), if_true]; rfl) ?_
  exact ⟨⟨hz, V, hw, hc, hh⟩, ⟨rfl, rfl, rfl⟩, rfl, rfl⟩
theorem q_co9 {N n : Nat} {S : XS} (hN : 14 ≤ N) (h : RS n S) : ∃ S2, x_count N 9 S = some (-1, S2) ∧ RS n S2 ∧ Same S S2 := by
  obtain ⟨hz, V, hw, hc, hh⟩ := h
  have hn := V.1
  refine mk1 (by simp only [x_count, f_X3_count, hz, Option.bind_some, if_neg (show ¬ (9 : Int32) = 0 by decide), if_neg (show ¬ (9 : Int32) = 1 by decide), if_neg (show ¬ (9 : Int32) = 2 by decide), if_neg (show ¬ (9 : Int32) = 3 by decide), if_neg (show ¬ (9 : Int32) = 4 by decide), if_neg (show ¬ (9 : Int32) = 5 by decide), if_neg (show ¬ (9 : Int32) = 6 by decide), if_neg (show ¬ (9 : Int32) = 7 by decide), if_neg (show ¬ (9 : Int32) = 8 by decide)]; rfl) ?_
  exact ⟨⟨hz, V, hw, hc, hh⟩, ⟨rfl, rfl, rfl⟩, rfl, rfl⟩
