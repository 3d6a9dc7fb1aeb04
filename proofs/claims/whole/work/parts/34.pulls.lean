/-! pulled, steps, trap, greatestTrap -/
theorem all_nI : ∀ n, n < 13 → (1 <<< (nI n &&& 31)) - 1 = nI (2 ^ n - 1) := by decide +kernel
theorem sub_nat {n : Nat} {x : Int32} (hn : n ≤ 12) : Sub n x ↔ ∃ v, v ≤ 2 ^ n - 1 ∧ x = nI v := by
  have h0 : 0 < 2 ^ n := Nat.pow_pos (by omega)
  constructor
  · intro h
    refine ⟨x.toBitVec.toNat, ?_, ?_⟩
    · have : x.toBitVec.toNat < 2 ^ n := by
        apply Nat.lt_pow_two_of_testBit
        intro i hi
        by_cases e : i < 32
        · exact h i hi e
        · exact BitVec.getLsbD_of_ge _ _ (by omega)
      omega
    · apply Int32.toBitVec_inj.mp
      show x.toBitVec = BitVec.ofNat 32 x.toBitVec.toNat
      simp
  · rintro ⟨v, hv, rfl⟩ i h1 h2
    show (BitVec.ofNat 32 v).getLsbD i = false
    rw [BitVec.getLsbD_ofNat]
    have hp : 2 ^ n ≤ 2 ^ i := Nat.pow_le_pow_right (by omega) h1
    have : v.testBit i = false := Nat.testBit_lt_two_pow (by omega)
    rw [this]; simp
theorem c_set {N n : Nat} (x : Int32) (hn : n ≤ 12) : (Sub n x ∧ f_X0_hasAll N x (nI n) = some 1 ∧ f_X4_in N x 0 ((1 <<< (nI n &&& 31)) - 1) = some 1) ∨ (f_X0_hasAll N x (nI n) = some 0 ∧ f_X4_in N x 0 ((1 <<< (nI n &&& 31)) - 1) = some 0) := by
  have hp : 2 ^ n ≤ 2 ^ 12 := Nat.pow_le_pow_right (by omega) hn
  have hz : (x &&& (((1 <<< (nI n &&& 31)) - 1) ^^^ (-1))) = 0 ↔ Sub n x := by
    rw [bt_zero]
    constructor
    · intro h i h1 h2
      have := h i h2
      rw [b_diff h2, bt_all n (by omega) i h2, decide_eq_false (by omega)] at this
      simpa using this
    · intro h i h2
      rw [b_diff h2, bt_all n (by omega) i h2]
      by_cases e : i < n
      · simp [e]
      · rw [h i (by omega) h2]; rfl
  rcases in_dec (N := N) (a := 0) (b := 2 ^ n - 1) x (by omega) (by omega) with ⟨j, h1, h2, rfl, h4⟩ | ⟨h1, h2⟩
  · have hs : Sub n (nI j) := (sub_nat hn).mpr ⟨j, h2, rfl⟩
    refine Or.inl ⟨hs, ?_, ?_⟩
    · simp only [f_X0_hasAll, f_X0_all, Option.bind_some]
      rw [if_pos (hz.mpr hs)]
    · rw [all_nI n (by omega)]; exact h4
  · have hs : ¬ Sub n x := fun h => by
      obtain ⟨v, hv, e⟩ := (sub_nat hn).mp h
      exact h2 v (by omega) hv e
    refine Or.inr ⟨?_, ?_⟩
    · simp only [f_X0_hasAll, f_X0_all, Option.bind_some]
      rw [if_neg (fun h => hs (hz.mp h))]
    · rw [all_nI n (by omega)]; exact h1
/-- one step of pulling, as a function -/
def pof (n : Nat) (pl : Int32) (o w : Nat → Int32) (region : Int32) : Int32 := (f_X1_pullOnce 13 pl region ((1 <<< (nI n &&& 31)) - 1) o w (nI n)).getD 0
theorem pof_b {n : Nat} {pl region : Int32} {o w : Nat → Int32} (hn : n ≤ 12) : ∀ b, b < 32 → bt (pof n pl o w region) b = (bt region b || (decide (b < n) && po pl region ((1 <<< (nI n &&& 31)) - 1) o w b)) := by
  obtain ⟨x, h1, h2⟩ := p_pullOnce (N := 13) (n := n) (pl := pl) (region := region) (arena := (1 <<< (nI n &&& 31)) - 1) (o := o) (w := w) (by omega) hn
  unfold pof
  rw [h1]
  exact h2
theorem pof_sub {n : Nat} {pl region : Int32} {o w : Nat → Int32} (hn : n ≤ 12) (h : Sub n region) : Sub n (pof n pl o w region) := fun i h1 h2 => by
  rw [pof_b hn i h2, h i h1 h2, decide_eq_false (by omega)]; rfl
theorem pof_eq {N n : Nat} {pl region : Int32} {o w : Nat → Int32} (hN : 13 ≤ N) (hn : n ≤ 12) : f_X1_pullOnce N pl region ((1 <<< (nI n &&& 31)) - 1) o w (nI n) = some (pof n pl o w region) := by
  obtain ⟨x, h1, h2⟩ := p_pullOnce (N := N) (n := n) (pl := pl) (region := region) (arena := (1 <<< (nI n &&& 31)) - 1) (o := o) (w := w) hN hn
  rw [h1]
  congr 1
  apply b_ext
  intro i hi
  rw [h2 i hi, pof_b hn i hi]
theorem and_all {n : Nat} {x : Int32} (hn : n ≤ 12) (h : Sub n x) : x &&& ((1 <<< (nI n &&& 31)) - 1) = x := by
  apply b_ext
  intro i hi
  rw [b_and, bt_all n (by omega) i hi]
  by_cases e : i < n
  · simp [e]
  · rw [h i (by omega) hi]; rfl
theorem sub_iff {x y : Int32} : (x &&& y) = x ↔ (x &&& (y ^^^ (-1))) = 0 := by
  rw [bt_zero]
  constructor
  · intro h i hi
    rw [b_diff hi]
    have : bt (x &&& y) i = bt x i := by rw [h]
    rw [b_and] at this
    cases hx : bt x i <;> cases hy : bt y i <;> simp_all
  · intro h
    apply b_ext
    intro i hi
    have := h i hi
    rw [b_diff hi] at this
    rw [b_and]
    cases hx : bt x i <;> cases hy : bt y i <;> simp_all
theorem p_pulls {N n : Nat} {pl region : Int32} {o r w s : Nat → Int32} (hN : 13 ≤ N) (V : VF n o r w) (hF : FE n o r w s) (hR : Sub n region) : f_X4_pulls N pl region s = some (pof n pl o w region) := by
  have hn := V.1
  obtain ⟨x, h1, h2⟩ := or_loop (fun m a k => f_X4_pulls_L5 N pl region s m a k) n (fun k => if o k = pl then decide (¬ (w k &&& region) = 0) else (decide (¬ w k = 0) && decide ((w k &&& (region ^^^ (-1))) = 0))) (fun m a => by simp only [f_X4_pulls_L5, chk_t g037, c0, hF.1]; rw [if_pos (Int32.le_refl _)]) hn (fun m a k hk => by
    obtain ⟨k1, k2, k3, k4⟩ := idx hk hn
    obtain ⟨g1, -, g3, s1, -, s3⟩ := idm hF hk hn
    simp only [f_X4_pulls_L5, chk_t g037, c0, hF.1, if_neg k1, m1, m25, chk_t g1, chk_t g3, s1, s3, k4]
    have or0 : a ||| 0 = a := by apply b_ext; intro i hi; rw [b_or, b_0]; simp
    generalize hz : (w k &&& (region ^^^ (-1))) = z
    by_cases e1 : o k = pl
    · by_cases e2 : (w k &&& region) = 0
      · simp [e1, e2, or0]
      · simp [e1, e2]
    · by_cases e2 : w k = 0
      · simp [e1, e2, or0]
      · by_cases e3 : z = 0
        · simp [e1, e2, e3]
        · simp [e1, e2, e3, or0]) region N (by omega)
  have h1 : f_X4_pulls_L5 N pl region s N region 0 = some x := h1
  simp only [f_X4_pulls, h1, Option.bind_some]
  congr 1
  apply b_ext
  intro i hi
  rw [h2 i hi, pof_b hn i hi]
  by_cases hreg : bt region i = true
  · rw [hreg]; rfl
  · have hreg := bf hreg
    rw [hreg, Bool.false_or, Bool.false_or]
    by_cases hin : i < n
    · simp only [hin, decide_true, Bool.true_and]
      unfold po
      rw [b_diff hi, bt_all n (by omega) i hi, hreg, and_all hn (V.2 i hin).2.2]
      simp only [hin, decide_true, Bool.not_false, Bool.and_true, Bool.true_and]
      by_cases e1 : o i = pl
      · rw [if_pos e1, decide_eq_true e1, Bool.true_or, Bool.and_true]
      · rw [if_neg e1, decide_eq_false e1, Bool.false_or]
        by_cases e3 : (w i &&& region) = w i
        · rw [decide_eq_true e3, decide_eq_true (sub_iff.mp e3), e3]
        · rw [decide_eq_false e3, decide_eq_false (fun h => e3 (sub_iff.mpr h)), Bool.and_false, Bool.and_false]
    · simp [hin]
def itr (g : Int32 → Int32) : Nat → Int32 → Int32
  | 0, x => x
  | j + 1, x => itr g j (g x)
theorem itr_fix {g : Int32 → Int32} {x : Int32} (h : g x = x) (j : Nat) : itr g j x = x := by
  induction j with
  | zero => rfl
  | succ j ih => show itr g j (g x) = x; rw [h]; exact ih
theorem itr_succ {g : Int32 → Int32} (j : Nat) (x : Int32) : itr g (j + 1) x = g (itr g j x) := by
  induction j generalizing x with
  | zero => rfl
  | succ j ih => exact ih (g x)
theorem pull_it {N n : Nat} {pl : Int32} {o w : Nat → Int32} (hN : 13 ≤ N) (hn : n ≤ 12) : ∀ j k m region, k + j = 12 → j < m → f_X1_pull_L6 N pl ((1 <<< (nI n &&& 31)) - 1) o w (nI n) m region (nI k) = some (itr (pof n pl o w) j region) := by
  intro j
  induction j with
  | zero =>
    intro k m region hk hm
    obtain ⟨m, rfl⟩ : ∃ m', m = m' + 1 := ⟨m - 1, by omega⟩
    obtain rfl : k = 12 := by omega
    rw [f_X1_pull_L6, if_pos (by decide)]; rfl
  | succ j ih =>
    intro k m region hk hm
    obtain ⟨m, rfl⟩ : ∃ m', m = m' + 1 := ⟨m - 1, by omega⟩
    have k1 : ¬ (12 : Int32) ≤ nI k := nI_ge (b := 12) (by omega) (by omega)
    rw [f_X1_pull_L6, if_neg k1, pof_eq hN hn, Option.bind_some]
    by_cases e : pof n pl o w region = region
    · rw [if_pos e, itr_fix e]
    · rw [if_neg e, nI_1, ih (k + 1) m _ (by omega) (by omega)]; rfl
theorem mpull_it {N n : Nat} {pl : Int32} {o r w s : Nat → Int32} (hN : 13 ≤ N) (V : VF n o r w) (hF : FE n o r w s) : ∀ j k m region, k + j = 12 → j < m → Sub n region → f_X4_pulled_L16 N pl s m region (nI k) = some (itr (pof n pl o w) j region) := by
  intro j
  induction j with
  | zero =>
    intro k m region hk hm _
    obtain ⟨m, rfl⟩ : ∃ m', m = m' + 1 := ⟨m - 1, by omega⟩
    obtain rfl : k = 12 := by omega
    rw [f_X4_pulled_L16, if_pos (by decide)]; rfl
  | succ j ih =>
    intro k m region hk hm hR
    obtain ⟨m, rfl⟩ : ∃ m', m = m' + 1 := ⟨m - 1, by omega⟩
    have k1 : ¬ (12 : Int32) ≤ nI k := nI_ge (b := 12) (by omega) (by omega)
    rw [f_X4_pulled_L16, if_neg k1, p_pulls hN V hF hR, Option.bind_some, nI_1, ih (k + 1) m _ (by omega) (by omega) (pof_sub V.1 hR)]; rfl
theorem step_pulled {N : Nat} (hN : 13000000 ≤ N) (x1 : Int32) (x2 : Int32) {S : XS} {M : MS} (h : Rel S M) : ∃ (r : Int32) (S2 : XS) (M2 : MS), x_pulled N x1 x2 S = some (r, S2) ∧ m_pulled N x1 x2 M = some (r, M2) ∧ Rel S2 M2 := by
  obtain ⟨⟨n, hz, V, hF, hw, hc⟩, hRH, hRK, hRT⟩ := h
  have hn := V.1
  rcases c_player (N := N) x1 with ⟨i, hi, rfl, a1, a2⟩ | ⟨a1, a2⟩
  · rcases c_set (N := N) x2 hn with ⟨hs, b1, b2⟩ | ⟨b1, b2⟩
    · have e1 : f_X1_pull_L6 N (nI i) ((1 <<< (nI n &&& 31)) - 1) (S.2.2 0) (S.2.2 2) (nI n) N x2 0 = _ := pull_it (by omega) hn 12 0 N x2 rfl (by omega)
      have e2 : f_X4_pulled_L16 N (nI i) (M.2 0) N x2 0 = _ := mpull_it (by omega) V hF 12 0 N x2 rfl (by omega) hs
      refine mk_step (by simp only [x_pulled, f_X3_pulled, hz, a1, b1, i10, Option.bind_some, f_X0_all, f_X1_pull, e1]; rfl) (by simp only [m_pulled, f_X4_pulled, f_X4_isSet, f_X4_all, a2, chk_t g037, c0, hF.1, b2, i10, Option.bind_some, e2]; rfl) ?_
      exact ⟨⟨n, hz, V, hF, hw, hc⟩, hRH, hRK, hRT⟩
    · refine mk_step (r := -1) (by simp only [x_pulled, f_X3_pulled, hz, a1, b1, i10, i00, Option.bind_some]; rfl) (by simp only [m_pulled, f_X4_pulled, f_X4_isSet, f_X4_all, a2, chk_t g037, c0, hF.1, b2, i10, i00, Option.bind_some]; rfl) ?_
      exact ⟨⟨n, hz, V, hF, hw, hc⟩, hRH, hRK, hRT⟩
  · refine mk_step (r := -1) (by simp only [x_pulled, f_X3_pulled, a1, i00, Option.bind_some]; rfl) (by simp only [m_pulled, f_X4_pulled, f_X4_isSet, a2, i00, Option.bind_some]; rfl) ?_
    exact ⟨⟨n, hz, V, hF, hw, hc⟩, hRH, hRK, hRT⟩
/-- behind eleven steps nothing more is pulled -/
theorem pof_mono {n : Nat} {pl region : Int32} {o w : Nat → Int32} (hn : n ≤ 12) {b : Nat} (h : bt region b = true) : bt (pof n pl o w region) b = true := by
  by_cases hb : b < 32
  · rw [pof_b hn b hb, h]; rfl
  · rw [b_big (by omega)] at h; cases h
theorem pof_0 {n : Nat} {pl : Int32} {o w : Nat → Int32} (hn : n ≤ 12) : pof n pl o w 0 = 0 := by
  apply b_ext
  intro i hi
  rw [pof_b hn i hi, b_0]
  have : ∀ x : Int32, x &&& 0 = 0 := fun x => by apply b_ext; intro i hi; rw [b_and, b_0]; simp
  unfold po
  rw [this]
  simp
theorem itr_grow {n : Nat} {pl set : Int32} {o w : Nat → Int32} (hn : n ≤ 12) (hs : Sub n set) (h0 : ¬ set = 0) : ∀ k, Sub n (itr (pof n pl o w) k set) ∧ (pof n pl o w (itr (pof n pl o w) k set) = itr (pof n pl o w) k set ∨ k + 1 ≤ cn (bt (itr (pof n pl o w) k set)) n) := by
  intro k
  induction k with
  | zero =>
    obtain ⟨b, -, hb2⟩ := bt_ne h0
    exact ⟨hs, Or.inr (cn_pos (hs.lt hb2) hb2)⟩
  | succ k ih =>
    obtain ⟨h1, h2⟩ := ih
    rw [itr_succ]
    refine ⟨pof_sub hn h1, ?_⟩
    by_cases e : pof n pl o w (itr (pof n pl o w) k set) = itr (pof n pl o w) k set
    · exact Or.inl (by rw [e, e])
    · rcases h2 with h2 | h2
      · exact absurd h2 e
      · refine Or.inr ?_
        obtain ⟨b, hb, hb1, hb2⟩ : ∃ b, b < n ∧ bt (itr (pof n pl o w) k set) b = false ∧ bt (pof n pl o w (itr (pof n pl o w) k set)) b = true := by
          apply Classical.byContradiction
          intro hno
          apply e
          apply ext_n (pof_sub hn h1) h1
          intro b hb
          cases hx : bt (itr (pof n pl o w) k set) b with
          | true => exact pof_mono hn hx
          | false => exact bf (fun h => hno ⟨b, hb, hx, h⟩)
        have := cn_lt (f := bt (itr (pof n pl o w) k set)) (g := bt (pof n pl o w (itr (pof n pl o w) k set))) (n := n) (fun u _ h => pof_mono hn h) hb hb1 hb2
        omega
theorem itr_11 {n : Nat} {pl set : Int32} {o w : Nat → Int32} (hn : n ≤ 12) (hs : Sub n set) : itr (pof n pl o w) 12 set = itr (pof n pl o w) 11 set := by
  by_cases h0 : set = 0
  · rw [h0, itr_fix (pof_0 hn), itr_fix (pof_0 hn)]
  · rw [itr_succ]
    obtain ⟨h1, h2⟩ := itr_grow (pl := pl) (o := o) (w := w) hn hs h0 11
    rcases h2 with h2 | h2
    · exact h2
    · apply ext_n (pof_sub hn h1) h1
      intro b hb
      have hall : bt (itr (pof n pl o w) 11 set) b = true := by
        apply Classical.byContradiction
        intro hno
        have h3 := cn_lt (f := bt (itr (pof n pl o w) 11 set)) (g := fun _ => true) (n := n) (fun _ _ _ => rfl) hb (bf hno) rfl
        have h4 := cn_le (fun _ => true) n
        omega
      rw [hall]
      exact pof_mono hn hall
/-- the first step at which a place is pulled, below a bound -/
theorem xsteps {N n p : Nat} {pl : Int32} {o w : Nat → Int32} (hN : 14 ≤ N) (hn : n ≤ 12) (hp : p < n) : ∀ j k m region, k + j = 12 → j < m → (∃ q, f_X3_steps_L37 N pl (nI p) o w (nI n) m region (nI k) = some q ∧ ((∃ t, t < j ∧ q = .inl (nI (k + t)) ∧ bt (itr (pof n pl o w) t region) p = true ∧ ∀ u, u < t → bt (itr (pof n pl o w) u region) p = false) ∨ (q = .inr () ∧ ∀ u, u < j → bt (itr (pof n pl o w) u region) p = false))) := by
  intro j
  induction j with
  | zero =>
    intro k m region hk hm
    obtain ⟨m, rfl⟩ : ∃ m', m = m' + 1 := ⟨m - 1, by omega⟩
    obtain rfl : k = 12 := by omega
    exact ⟨.inr (), by rw [f_X3_steps_L37, if_pos (by decide)], Or.inr ⟨rfl, fun u hu => by omega⟩⟩
  | succ j ih =>
    intro k m region hk hm
    obtain ⟨m, rfl⟩ : ∃ m', m = m' + 1 := ⟨m - 1, by omega⟩
    have k1 : ¬ (12 : Int32) ≤ nI k := nI_ge (b := 12) (by omega) (by omega)
    rw [f_X3_steps_L37, if_neg k1, f_contains (by omega), Option.bind_some]
    by_cases e : bt region p = true
    · rw [if_pos e, i10]
      exact ⟨_, rfl, Or.inl ⟨0, by omega, rfl, e, fun u hu => by omega⟩⟩
    · rw [if_neg e, i00]
      simp only [f_X0_all, Option.bind_some, pof_eq (show 13 ≤ N by omega) hn, nI_1]
      obtain ⟨q, h1, h2⟩ := ih (k + 1) m (pof n pl o w region) (by omega) (by omega)
      refine ⟨q, h1, ?_⟩
      rcases h2 with ⟨t, t1, t2, t3, t4⟩ | ⟨t1, t2⟩
      · refine Or.inl ⟨t + 1, by omega, by rw [t2]; congr 2; omega, t3, fun u hu => ?_⟩
        cases u with
        | zero => exact bf e
        | succ u => exact t4 u (by omega)
      · refine Or.inr ⟨t1, fun u hu => ?_⟩
        cases u with
        | zero => exact bf e
        | succ u => exact t2 u (by omega)
theorem msteps {N n p : Nat} {pl : Int32} {o r w s : Nat → Int32} (hN : 14 ≤ N) (V : VF n o r w) (hF : FE n o r w s) (hp : p < n) : ∀ j k m region, k + j = 13 → j < m → Sub n region → (∃ q, f_X4_steps_L25 N pl (nI p) s m region (nI k) = some q ∧ ((∃ t, t < j ∧ q = .inl (nI (k + t)) ∧ bt (itr (pof n pl o w) t region) p = true ∧ ∀ u, u < t → bt (itr (pof n pl o w) u region) p = false) ∨ (q = .inr () ∧ ∀ u, u < j → bt (itr (pof n pl o w) u region) p = false))) := by
  have hn := V.1
  intro j
  induction j with
  | zero =>
    intro k m region hk hm _
    obtain ⟨m, rfl⟩ : ∃ m', m = m' + 1 := ⟨m - 1, by omega⟩
    obtain rfl : k = 13 := by omega
    exact ⟨.inr (), by rw [f_X4_steps_L25, if_pos (by decide)], Or.inr ⟨rfl, fun u hu => by omega⟩⟩
  | succ j ih =>
    intro k m region hk hm hR
    obtain ⟨m, rfl⟩ : ∃ m', m = m' + 1 := ⟨m - 1, by omega⟩
    have k1 : ¬ (12 : Int32) < nI k := nI_nlt (a := 12) (by omega) (by omega)
    rw [f_X4_steps_L25, if_neg k1, bt_get (by omega)]
    by_cases e : bt region p = true
    · rw [if_pos e, if_pos rfl]
      exact ⟨_, rfl, Or.inl ⟨0, by omega, rfl, e, fun u hu => by omega⟩⟩
    · rw [if_neg e, if_neg (show ¬ (0 : Int32) = 1 by decide), p_pulls (by omega) V hF hR, Option.bind_some, nI_1]
      obtain ⟨q, h1, h2⟩ := ih (k + 1) m (pof n pl o w region) (by omega) (by omega) (pof_sub hn hR)
      refine ⟨q, h1, ?_⟩
      rcases h2 with ⟨t, t1, t2, t3, t4⟩ | ⟨t1, t2⟩
      · refine Or.inl ⟨t + 1, by omega, by rw [t2]; congr 2; omega, t3, fun u hu => ?_⟩
        cases u with
        | zero => exact bf e
        | succ u => exact t4 u (by omega)
      · refine Or.inr ⟨t1, fun u hu => ?_⟩
        cases u with
        | zero => exact bf e
        | succ u => exact t2 u (by omega)
theorem step_steps {N : Nat} (hN : 13000000 ≤ N) (x1 : Int32) (x2 : Int32) (x3 : Int32) {S : XS} {M : MS} (h : Rel S M) : ∃ (r : Int32) (S2 : XS) (M2 : MS), x_steps N x1 x2 x3 S = some (r, S2) ∧ m_steps N x1 x2 x3 M = some (r, M2) ∧ Rel S2 M2 := by
  obtain ⟨⟨n, hz, V, hF, hw, hc⟩, hRH, hRK, hRT⟩ := h
  have hn := V.1
  rcases c_player (N := N) x1 with ⟨i, hi, rfl, a1, a2⟩ | ⟨a1, a2⟩
  · rcases c_set (N := N) x2 hn with ⟨hs, b1, b2⟩ | ⟨b1, b2⟩
    · rcases c_place (N := N) x3 hn hF.1 with ⟨k, hk, rfl, d1, d2⟩ | ⟨d1, d2⟩
      · obtain ⟨q, u1, u2⟩ := xsteps (N := N) (pl := nI i) (o := S.2.2 0) (w := S.2.2 2) (by omega) hn hk 12 0 N x2 rfl (by omega)
        obtain ⟨q', v1, v2⟩ := msteps (N := N) (pl := nI i) (by omega) V hF hk 13 0 N x2 rfl (by omega) hs
        have u1 : f_X3_steps_L37 N (nI i) (nI k) (S.2.2 0) (S.2.2 2) (nI n) N x2 0 = some q := u1
        have v1 : f_X4_steps_L25 N (nI i) (nI k) (M.2 0) N x2 0 = some q' := v1
        have hq : q = q' := by
          rcases u2 with ⟨t, t1, t2, t3, t4⟩ | ⟨t1, t2⟩
          · rcases v2 with ⟨t', t1', t2', t3', t4'⟩ | ⟨t1', t2'⟩
            · have : t = t' := by
                rcases Nat.lt_trichotomy t t' with h | h | h
                · have := t4' t h; rw [t3] at this; cases this
                · exact h
                · have := t4 t' h; rw [t3'] at this; cases this
              rw [t2, t2', this]
            · have := t2' t (by omega); rw [t3] at this; cases this
          · rcases v2 with ⟨t', t1', t2', t3', t4'⟩ | ⟨t1', t2'⟩
            · by_cases e : t' < 12
              · have := t2 t' e; rw [t3'] at this; cases this
              · obtain rfl : t' = 12 := by omega
                rw [itr_11 hn hs, t2 11 (by omega)] at t3'; cases t3'
            · rw [t1, t1']
        subst hq
        refine mk_step (r := sm q id (fun _ => -4)) (by simp only [x_steps, f_X3_steps, hz, a1, b1, d1, i10, Option.bind_some, u1]; cases q <;> rfl) (by simp only [m_steps, f_X4_steps, f_X4_isSet, f_X4_all, a2, chk_t g037, c0, hF.1, b2, d2, i10, Option.bind_some, v1]; cases q <;> rfl) ?_
        exact ⟨⟨n, hz, V, hF, hw, hc⟩, hRH, hRK, hRT⟩
      · refine mk_step (r := -1) (by simp only [x_steps, f_X3_steps, hz, a1, b1, d1, i10, i00, Option.bind_some]; rfl) (by simp only [m_steps, f_X4_steps, f_X4_isSet, f_X4_all, a2, chk_t g037, c0, hF.1, b2, d2, i10, i00, Option.bind_some]; rfl) ?_
        exact ⟨⟨n, hz, V, hF, hw, hc⟩, hRH, hRK, hRT⟩
    · refine mk_step (r := -1) (by simp only [x_steps, f_X3_steps, hz, a1, b1, i10, i00, Option.bind_some]; rfl) (by simp only [m_steps, f_X4_steps, f_X4_isSet, f_X4_all, a2, chk_t g037, c0, hF.1, b2, i10, i00, Option.bind_some]; rfl) ?_
      exact ⟨⟨n, hz, V, hF, hw, hc⟩, hRH, hRK, hRT⟩
  · refine mk_step (r := -1) (by simp only [x_steps, f_X3_steps, a1, i00, Option.bind_some]; rfl) (by simp only [m_steps, f_X4_steps, f_X4_isSet, a2, i00, Option.bind_some]; rfl) ?_
    exact ⟨⟨n, hz, V, hF, hw, hc⟩, hRH, hRK, hRT⟩
/-- the places of a set that hold, as a function -/
theorem p_held {N n : Nat} {pl set : Int32} {o r w s : Nat → Int32} (hN : 13 ≤ N) (V : VF n o r w) (hF : FE n o r w s) : ∃ x, f_X1_held N pl set o w (nI n) = some x ∧ f_X4_holding N pl set s = some x ∧ Sub n x := by
  have hn := V.1
  obtain ⟨x, h1, h2⟩ := or_loop (fun m a k => f_X1_held_L5 N pl set o w (nI n) m a k) n (fun k => bt set k && (decide ((w k &&& set) = w k) || (decide (¬ (w k &&& set) = 0) && decide (¬ o k = pl)))) (fun m a => by simp only [f_X1_held_L5]; rw [if_pos (Int32.le_refl _)]) hn (fun m a k hk => by
    obtain ⟨k1, k2, k3, k4⟩ := idx hk hn
    simp only [f_X1_held_L5, if_neg k1, chk_t k2, k3, k4, f_contains (show k < 32 by omega), Option.bind_some]
    by_cases e0 : bt set k = true
    · by_cases e1 : (w k &&& set) = w k
      · simp [e0, e1]
      · by_cases e2 : (w k &&& set) = 0
        · rw [e2] at e1
          simp [e0, e1, e2]
        · by_cases e3 : o k = pl
          · simp [e0, e1, e2, e3]
          · simp [e0, e1, e2, e3]
    · simp [e0]) 0 N (by omega)
  obtain ⟨y, g1, g2⟩ := or_loop (fun m a k => f_X4_holding_L5 N pl set s m a k) n (fun k => bt set k && (if o k = pl then decide ((w k &&& (set ^^^ (-1))) = 0) else (decide (w k = 0) || decide (¬ (w k &&& set) = 0)))) (fun m a => by simp only [f_X4_holding_L5, chk_t g037, c0, hF.1]; rw [if_pos (Int32.le_refl _)]) hn (fun m a k hk => by
    obtain ⟨k1, k2, k3, k4⟩ := idx hk hn
    obtain ⟨z1, -, z3, s1, -, s3⟩ := idm hF hk hn
    simp only [f_X4_holding_L5, chk_t g037, c0, hF.1, if_neg k1, m1, m25, chk_t z1, chk_t z3, s1, s3, k4, bt_get (show k < 32 by omega)]
    have or0 : a ||| 0 = a := by apply b_ext; intro i hi; rw [b_or, b_0]; simp
    generalize hz : (w k &&& (set ^^^ (-1))) = z
    by_cases e0 : bt set k = true
    · by_cases e1 : o k = pl
      · by_cases e2 : z = 0
        · simp [e0, e1, e2]
        · simp [e0, e1, e2, or0]
      · by_cases e2 : w k = 0
        · simp [e0, e1, e2]
        · by_cases e3 : (w k &&& set) = 0
          · simp [e0, e1, e2, e3, or0]
          · simp [e0, e1, e2, e3]
    · by_cases e1 : o k = pl
      · by_cases e2 : z = 0
        · simp [e0, e1, e2, or0]
        · simp [e0, e1, e2, or0]
      · by_cases e2 : w k = 0
        · simp [e0, e1, e2, or0]
        · by_cases e3 : (w k &&& set) = 0
          · simp [e0, e1, e2, e3, or0]
          · simp [e0, e1, e2, e3, or0]) 0 N (by omega)
  have hxy : y = x := by
    apply b_ext
    intro i hi
    rw [g2 i hi, h2 i hi]
    by_cases hin : i < n
    · simp only [hin, decide_true, Bool.true_and]
      congr 1
      congr 1
      by_cases e1 : o i = pl
      · rw [if_pos e1, decide_eq_false (show ¬ ¬ o i = pl from fun h => h e1), Bool.and_false, Bool.or_false]
        by_cases e2 : (w i &&& set) = w i
        · rw [decide_eq_true e2, decide_eq_true (sub_iff.mp e2)]
        · rw [decide_eq_false e2, decide_eq_false (fun h => e2 (sub_iff.mpr h))]
      · rw [if_neg e1, decide_eq_true (show ¬ o i = pl from e1), Bool.and_true]
        by_cases e2 : (w i &&& set) = 0
        · rw [e2, decide_eq_false (fun h : ¬ (0 : Int32) = 0 => h rfl), Bool.or_false, Bool.or_false]
          by_cases e3 : w i = 0
          · rw [decide_eq_true e3, decide_eq_true e3.symm]
          · rw [decide_eq_false e3, decide_eq_false (fun h => e3 h.symm)]
        · rw [decide_eq_true e2, Bool.or_true, Bool.or_true]
    · simp [hin]
  subst hxy
  refine ⟨y, ?_, ?_, fun i h1' h2' => ?_⟩
  · have h1 : f_X1_held_L5 N pl set o w (nI n) N 0 0 = some y := h1
    simp only [f_X1_held, h1, Option.bind_some]
  · have g1 : f_X4_holding_L5 N pl set s N 0 0 = some y := g1
    simp only [f_X4_holding, g1, Option.bind_some]
  · rw [h2 i h2', b_0, decide_eq_false (by omega)]; rfl
theorem step_trap {N : Nat} (hN : 13000000 ≤ N) (x1 : Int32) (x2 : Int32) {S : XS} {M : MS} (h : Rel S M) : ∃ (r : Int32) (S2 : XS) (M2 : MS), x_trap N x1 x2 S = some (r, S2) ∧ m_trap N x1 x2 M = some (r, M2) ∧ Rel S2 M2 := by
  obtain ⟨⟨n, hz, V, hF, hw, hc⟩, hRH, hRK, hRT⟩ := h
  have hn := V.1
  rcases c_player (N := N) x1 with ⟨i, hi, rfl, a1, a2⟩ | ⟨a1, a2⟩
  · rcases c_set (N := N) x2 hn with ⟨hs, b1, b2⟩ | ⟨b1, b2⟩
    · obtain ⟨x, e1, e2, -⟩ := p_held (N := N) (pl := nI i) (set := x2) (by omega) V hF
      refine mk_step (r := if x = x2 then 1 else 0) (by simp only [x_trap, f_X3_trap, hz, a1, b1, i10, Option.bind_some, e1]; split <;> rfl) (by simp only [m_trap, f_X4_trap, f_X4_isSet, f_X4_all, a2, chk_t g037, c0, hF.1, b2, i10, Option.bind_some, e2]; split <;> rfl) ?_
      exact ⟨⟨n, hz, V, hF, hw, hc⟩, hRH, hRK, hRT⟩
    · refine mk_step (r := -1) (by simp only [x_trap, f_X3_trap, hz, a1, b1, i10, i00, Option.bind_some]; rfl) (by simp only [m_trap, f_X4_trap, f_X4_isSet, f_X4_all, a2, chk_t g037, c0, hF.1, b2, i10, i00, Option.bind_some]; rfl) ?_
      exact ⟨⟨n, hz, V, hF, hw, hc⟩, hRH, hRK, hRT⟩
  · refine mk_step (r := -1) (by simp only [x_trap, f_X3_trap, a1, i00, Option.bind_some]; rfl) (by simp only [m_trap, f_X4_trap, f_X4_isSet, a2, i00, Option.bind_some]; rfl) ?_
    exact ⟨⟨n, hz, V, hF, hw, hc⟩, hRH, hRK, hRT⟩
theorem gt_it {N n : Nat} {pl : Int32} {o r w s : Nat → Int32} (hN : 13 ≤ N) (V : VF n o r w) (hF : FE n o r w s) : ∀ j k m set, k + j = 12 → j < m → ∃ x, f_X3_greatestTrap_L25 N pl o w (nI n) m set (nI k) = some x ∧ f_X4_greatestTrap_L16 N pl s m set (nI k) = some x := by
  intro j
  induction j with
  | zero =>
    intro k m set hk hm
    obtain ⟨m, rfl⟩ : ∃ m', m = m' + 1 := ⟨m - 1, by omega⟩
    obtain rfl : k = 12 := by omega
    exact ⟨set, by rw [f_X3_greatestTrap_L25, if_pos (by decide)], by rw [f_X4_greatestTrap_L16, if_pos (by decide)]⟩
  | succ j ih =>
    intro k m set hk hm
    obtain ⟨m, rfl⟩ : ∃ m', m = m' + 1 := ⟨m - 1, by omega⟩
    have k1 : ¬ (12 : Int32) ≤ nI k := nI_ge (b := 12) (by omega) (by omega)
    obtain ⟨x, e1, e2, -⟩ := p_held (N := N) (pl := pl) (set := set) hN V hF
    obtain ⟨y, g1, g2⟩ := ih (k + 1) m x (by omega) (by omega)
    exact ⟨y, by rw [f_X3_greatestTrap_L25, if_neg k1, e1, Option.bind_some, nI_1]; exact g1, by rw [f_X4_greatestTrap_L16, if_neg k1, e2, Option.bind_some, nI_1]; exact g2⟩
theorem step_greatestTrap {N : Nat} (hN : 13000000 ≤ N) (x1 : Int32) (x2 : Int32) {S : XS} {M : MS} (h : Rel S M) : ∃ (r : Int32) (S2 : XS) (M2 : MS), x_greatestTrap N x1 x2 S = some (r, S2) ∧ m_greatestTrap N x1 x2 M = some (r, M2) ∧ Rel S2 M2 := by
  obtain ⟨⟨n, hz, V, hF, hw, hc⟩, hRH, hRK, hRT⟩ := h
  have hn := V.1
  rcases c_player (N := N) x1 with ⟨i, hi, rfl, a1, a2⟩ | ⟨a1, a2⟩
  · rcases c_set (N := N) x2 hn with ⟨hs, b1, b2⟩ | ⟨b1, b2⟩
    · obtain ⟨x, e1, e2⟩ := gt_it (N := N) (pl := nI i) (by omega) V hF 12 0 N x2 rfl (by omega)
      have e1 : f_X3_greatestTrap_L25 N (nI i) (S.2.2 0) (S.2.2 2) (nI n) N x2 0 = some x := e1
      have e2 : f_X4_greatestTrap_L16 N (nI i) (M.2 0) N x2 0 = some x := e2
      refine mk_step (r := x) (by simp only [x_greatestTrap, f_X3_greatestTrap, hz, a1, b1, i10, Option.bind_some, e1]; rfl) (by simp only [m_greatestTrap, f_X4_greatestTrap, f_X4_isSet, f_X4_all, a2, chk_t g037, c0, hF.1, b2, i10, Option.bind_some, e2]; rfl) ?_
      exact ⟨⟨n, hz, V, hF, hw, hc⟩, hRH, hRK, hRT⟩
    · refine mk_step (r := -1) (by simp only [x_greatestTrap, f_X3_greatestTrap, hz, a1, b1, i10, i00, Option.bind_some]; rfl) (by simp only [m_greatestTrap, f_X4_greatestTrap, f_X4_isSet, f_X4_all, a2, chk_t g037, c0, hF.1, b2, i10, i00, Option.bind_some]; rfl) ?_
      exact ⟨⟨n, hz, V, hF, hw, hc⟩, hRH, hRK, hRT⟩
  · refine mk_step (r := -1) (by simp only [x_greatestTrap, f_X3_greatestTrap, a1, i00, Option.bind_some]; rfl) (by simp only [m_greatestTrap, f_X4_greatestTrap, f_X4_isSet, a2, i00, Option.bind_some]; rfl) ?_
    exact ⟨⟨n, hz, V, hF, hw, hc⟩, hRH, hRK, hRT⟩
