/-! what ties the class's state to the reference's -/
abbrev FV : Type := (Nat → Int32) × (Nat → Int32) × (Nat → Int32) × Int32
def hq (a0 a1 a2 : Nat → Int32) (a3 : Int32) (b0 b1 b2 : Nat → Int32) (b3 : Int32) (c0 c1 c2 : Nat → Int32) (c3 : Int32) (d0 d1 d2 : Nat → Int32) (d3 : Int32) : Nat → FV
  | 0 => (a0, a1, a2, a3)
  | 1 => (b0, b1, b2, b3)
  | 2 => (c0, c1, c2, c3)
  | _ => (d0, d1, d2, d3)
/-- a field of the class and one of the reference are the same -/
def FQ (q : FV) (s : Nat → Int32) : Prop := ∃ n, q.2.2.2 = nI n ∧ VF n q.1 q.2.1 q.2.2.1 ∧ FE n q.1 q.2.1 q.2.2.1 s
def RHp (st : Int32) (H : Nat → FV) (ps : Int32) (past : Nat → Int32) : Prop := ∃ h, h ≤ 4 ∧ st = nI h ∧ ps = nI h ∧ ∀ i, i < h → FQ (H i) (fun j => past (37 * i + j))
def bit (u : Nat) : Int32 := 1 <<< (nI u &&& 31)
/-- the choices: settled place by place -/
def CS (n : Nat) (o r w : Nat → Int32) (R : Int32) (tws : Nat → Nat → Int32) (ch : Nat → Int32) (m : Nat) : Prop :=
  (∀ v, v < n → tws 0 v = w v) ∧ ∀ k, k < m →
    (w k = 0 → ch k = -4 ∧ ∀ v, v < n → tws (k + 1) v = tws k v) ∧
    (¬ w k = 0 → bt R k = decide (owN o k = 0) → ∃ u, u < n ∧ ch k = nI u ∧ bt (w k) u = true ∧ WinS n o r (upd (tws k) k (bit u)) R ∧ (∀ u', u' < u → bt (w k) u' = true → ¬ WinS n o r (upd (tws k) k (bit u')) R) ∧ ∀ v, v < n → tws (k + 1) v = upd (tws k) k (bit u) v) ∧
    (¬ w k = 0 → ¬ bt R k = decide (owN o k = 0) → ch k = nI (low (bt (w k)) 12 0) ∧ ∀ v, v < n → tws (k + 1) v = tws k v)
def ChoS (n : Nat) (o r w ch : Nat → Int32) : Prop := ∃ R tws, WinS n o r w R ∧ CS n o r w R tws ch n
def RFp (z : Int32) (o r w : Nat → Int32) (wk wv ck : Int32) (ch s : Nat → Int32) : Prop := ∃ n, z = nI n ∧ VF n o r w ∧ FE n o r w s ∧ (¬ wk = 0 → WinS n o r w wv) ∧ (¬ ck = 0 → ChoS n o r w ch ∧ ¬ wk = 0)
def RKp (k k' : Int32) (q : FV) (kept : Nat → Int32) : Prop := (k = 0 ∧ k' = 0) ∨ (k = 1 ∧ k' = 1 ∧ FQ q kept)
def RTp (len len' : Int32) (cs ts : Nat → Int32) : Prop := ∃ L, L ≤ 80 ∧ len = nI L ∧ len' = nI L ∧ ∀ k, k < L → ∃ c, 32 ≤ c ∧ c ≤ 126 ∧ cs k = nI c ∧ ts k = nI c
def Rel (S : XS) (M : MS) : Prop :=
  RFp (S.2.1 0) (S.2.2 0) (S.2.2 1) (S.2.2 2) (S.2.1 10) (S.2.1 11) (S.2.1 12) (S.2.2 27) (M.2 0) ∧
  RHp (S.2.1 8) (hq (S.2.2 3) (S.2.2 4) (S.2.2 5) (S.2.1 1) (S.2.2 6) (S.2.2 7) (S.2.2 8) (S.2.1 2) (S.2.2 9) (S.2.2 10) (S.2.2 11) (S.2.1 3) (S.2.2 12) (S.2.2 13) (S.2.2 14) (S.2.1 4)) (M.1 1) (M.2 1) ∧
  RKp (S.2.1 9) (M.1 0) (S.2.2 15, S.2.2 16, S.2.2 17, S.2.1 5) (M.2 2) ∧
  RTp (S.2.1 13) (M.1 2) (S.2.2 24) (M.2 3)
theorem rel_init (ah : Nat → Nat) : Rel (ah, (fun _ => 0), (fun _ _ => 0)) ((fun _ => 0), (fun _ _ => 0)) :=
  ⟨⟨0, rfl, ⟨by omega, fun k hk => by omega⟩, ⟨rfl, fun k hk => by omega⟩, fun h => absurd rfl h, fun h => absurd rfl h⟩, ⟨0, by omega, rfl, rfl, fun i hi => by omega⟩, Or.inl ⟨rfl, rfl⟩, ⟨0, by omega, rfl, rfl, fun k hk => by omega⟩⟩
/-! copies -/
theorem p_copyFrom {N n : Nat} {o r w o2 r2 w2 : Nat → Int32} {z : Int32} (hN : 13 ≤ N) (hn : n ≤ 12) :
    ∃ o' r' w', f_X0_copyFrom N o2 r2 w2 z o r w (nI n) = some (o', r', w', nI n) ∧ ∀ k, k < n → o' k = o k ∧ r' k = r k ∧ w' k = w k := by
  obtain ⟨y, e1, e2⟩ := for_inv (fun m k (t : (Nat → Int32) × (Nat → Int32) × (Nat → Int32)) => f_X0_copyFrom_L10 N (nI n) o r w m k t.1 t.2.1 t.2.2) n
    (fun k t => ∀ j, j < k → t.1 j = o j ∧ t.2.1 j = r j ∧ t.2.2 j = w j) (fun t => ∀ j, j < n → t.1 j = o j ∧ t.2.1 j = r j ∧ t.2.2 j = w j)
    (fun m t ht => ⟨t, by simp only [f_X0_copyFrom_L10]; rw [if_pos (Int32.le_refl _)], ht⟩)
    (fun m k t hk ht => Or.inr ⟨(upd t.1 k (o k), upd t.2.1 k (r k), upd t.2.2 k (w k)), by
      obtain ⟨k1, k2, k3, k4⟩ := idx hk hn
      simp only [f_X0_copyFrom_L10, if_neg k1, chk_t k2, k3, k4], fun j hj => by
      simp only [upd]
      by_cases e : j = k
      · subst e; simp
      · rw [if_neg e, if_neg e, if_neg e]; exact ht j (by omega)⟩)
    0 N (o2, r2, w2) (by omega) (by omega) (fun j hj => by omega)
  refine ⟨y.1, y.2.1, y.2.2, ?_, e2⟩
  have e1 : f_X0_copyFrom_L10 N (nI n) o r w N 0 o2 r2 w2 = some y := e1
  simp only [f_X0_copyFrom, e1, Option.bind_some]
theorem FQ_copy {n : Nat} {o r w o' r' w' s : Nat → Int32} (V : VF n o r w) (hF : FE n o r w s) (h : ∀ k, k < n → o' k = o k ∧ r' k = r k ∧ w' k = w k) : VF n o' r' w' ∧ FE n o' r' w' s := by
  refine ⟨⟨V.1, fun k hk => ?_⟩, hF.1, fun k hk => ?_⟩
  · obtain ⟨h1, h2, h3⟩ := h k hk
    have := V.2 k hk
    unfold rkN at this ⊢
    rw [h1, h2, h3]
    exact this
  · obtain ⟨h1, h2, h3⟩ := h k hk
    rw [h1, h2, h3]
    exact hF.2 k hk
theorem FE_s {n : Nat} {o r w s s' : Nat → Int32} (hn : n ≤ 12) (hF : FE n o r w s) (h : ∀ j, j < 37 → s' j = s j) : FE n o r w s' :=
  ⟨by rw [h 0 (by omega)]; exact hF.1, fun k hk => by rw [h _ (by omega), h _ (by omega), h _ (by omega)]; exact hF.2 k hk⟩
theorem FQ_s {q : FV} {s s' : Nat → Int32} (h : FQ q s) (hs : ∀ j, j < 37 → s' j = s j) : FQ q s' := by
  obtain ⟨n, h1, h2, h3⟩ := h
  exact ⟨n, h1, h2, FE_s h2.1 h3 hs⟩
/-! the reference's past -/
theorem p_copies {N : Nat} {a b : Nat → Int32} (hN : 38 ≤ N) : ∃ c, f_X4_copies N a b = some c ∧ ∀ j, j < 37 → c j = a j := by
  obtain ⟨c, e1, e2⟩ := for_inv (fun m k t => f_X4_copies_L2 N a m k t) 37 (fun k (t : Nat → Int32) => ∀ j, j < k → t j = a j) (fun t => ∀ j, j < 37 → t j = a j)
    (fun m t ht => ⟨t, by simp only [f_X4_copies_L2]; rw [if_pos (by decide)], ht⟩)
    (fun m k t hk ht => Or.inr ⟨upd t k (a k), by
      have k1 : ¬ (37 : Int32) ≤ nI k := nI_ge (b := 37) hk (by omega)
      simp only [f_X4_copies_L2, if_neg k1, chk_t (gi_ok hk (by omega)), nI_clamp (show k < 2 ^ 31 by omega), nI_1], fun j hj => by
      unfold upd
      split
      · next e => rw [e]
      · exact ht j (by omega)⟩)
    0 N b (by omega) (by omega) (fun j hj => by omega)
  refine ⟨c, ?_, e2⟩
  have e1 : f_X4_copies_L2 N a N 0 b = some c := e1
  simp only [f_X4_copies, e1, Option.bind_some]
theorem p_ch49 {N h : Nat} {s past : Nat → Int32} (hN : 38 ≤ N) (hh : h < 4) : ∃ c, f_X4_changes_L49 N s (nI h) N 0 past = some c ∧ (∀ j, j < 37 → c (37 * h + j) = s j) ∧ ∀ j, j < 37 * h → c j = past j := by
  obtain ⟨c, e1, e2⟩ := for_inv (fun m k t => f_X4_changes_L49 N s (nI h) m k t) 37 (fun k (t : Nat → Int32) => (∀ j, j < k → t (37 * h + j) = s j) ∧ ∀ j, j < 37 * h → t j = past j) (fun t => (∀ j, j < 37 → t (37 * h + j) = s j) ∧ ∀ j, j < 37 * h → t j = past j)
    (fun m t ht => ⟨t, by simp only [f_X4_changes_L49]; rw [if_pos (by decide)], ht⟩)
    (fun m k t hk ht => Or.inr ⟨upd t (37 * h + k) (s k), by
      have k1 : ¬ (37 : Int32) ≤ nI k := nI_ge (b := 37) hk (by omega)
      have k5 : (37 : Int32) * nI h + nI k = nI (37 * h + k) := by rw [show (37 : Int32) * nI h = nI (37 * h) from pk_mul 37 h, nI_add]
      simp only [f_X4_changes_L49, if_neg k1, chk_t (gi_ok hk (by omega)), k5, chk_t (gi_ok (show 37 * h + k < 148 by omega) (by omega)), nI_clamp (show k < 2 ^ 31 by omega), nI_clamp (show 37 * h + k < 2 ^ 31 by omega), nI_1], fun j hj => by
      unfold upd
      split
      · next e => rw [show j = k by omega]
      · exact ht.1 j (by omega), fun j hj => by
      unfold upd
      rw [if_neg (by omega)]
      exact ht.2 j hj⟩)
    0 N past (by omega) (by omega) ⟨fun j hj => by omega, fun j _ => rfl⟩
  exact ⟨c, e1, e2⟩
theorem p_ch10 {N : Nat} {past : Nat → Int32} (hN : 112 ≤ N) : ∃ c, f_X4_changes_L10 N N 0 past = some c ∧ ∀ j, j < 111 → c j = past (j + 37) := by
  obtain ⟨c, e1, e2⟩ := for_inv (fun m k t => f_X4_changes_L10 N m k t) 111 (fun k (t : Nat → Int32) => (∀ j, j < k → t j = past (j + 37)) ∧ ∀ j, k ≤ j → t j = past j) (fun t => ∀ j, j < 111 → t j = past (j + 37))
    (fun m t ht => ⟨t, by simp only [f_X4_changes_L10]; rw [if_pos (by decide)], ht.1⟩)
    (fun m k t hk ht => Or.inr ⟨upd t k (t (k + 37)), by
      have k1 : ¬ (111 : Int32) ≤ nI k := nI_ge (b := 111) hk (by omega)
      have k5 : nI k + 37 = nI (k + 37) := nI_add k 37
      simp only [f_X4_changes_L10, if_neg k1, k5, chk_t (gi_ok (show k + 37 < 148 by omega) (by omega)), chk_t (gi_ok (show k < 148 by omega) (by omega)), nI_clamp (show k < 2 ^ 31 by omega), nI_clamp (show k + 37 < 2 ^ 31 by omega), nI_1], fun j hj => by
      unfold upd
      split
      · next e => rw [e]; exact ht.2 _ (by omega)
      · exact ht.1 j (by omega), fun j hj => by
      unfold upd
      rw [if_neg (by omega)]
      exact ht.2 j (by omega)⟩)
    0 N past (by omega) (by omega) ⟨fun j hj => by omega, fun j _ => rfl⟩
  exact ⟨c, e1, e2⟩
/-! a change is recorded, on both sides -/
theorem p_record {N n : Nat} {ah : Nat → Nat} {o r w s past : Nat → Int32} {a0 a1 a2 b0 b1 b2 c0 c1 c2 d0 d1 d2 : Nat → Int32} {a3 b3 c3 d3 st ps wk ck : Int32} (hN : 13000000 ≤ N) (V : VF n o r w) (hF : FE n o r w s)
    (hH : RHp st (hq a0 a1 a2 a3 b0 b1 b2 b3 c0 c1 c2 c3 d0 d1 d2 d3) ps past) :
    ∃ ah' st' e0 e1 e2 e3 f0 f1 f2 f3 g0 g1 g2 g3 i0 i1 i2 i3 ps' past', f_X3_recordState N ah o r w (nI n) a0 a1 a2 a3 b0 b1 b2 b3 c0 c1 c2 c3 d0 d1 d2 d3 st wk ck = some (ah', e0, e1, e2, e3, f0, f1, f2, f3, g0, g1, g2, g3, i0, i1, i2, i3, st', 0, 0) ∧
      f_X4_changes N s past ps = some (past', ps') ∧ RHp st' (hq e0 e1 e2 e3 f0 f1 f2 f3 g0 g1 g2 g3 i0 i1 i2 i3) ps' past' := by
  obtain ⟨h, h4, rfl, rfl, hh⟩ := hH
  have hn := V.1
  by_cases e4 : h = 4
  · subst e4
    obtain ⟨p1, q1, q2⟩ := p_ch10 (N := N) (past := past) (by omega)
    obtain ⟨p2, q3, q4, q5⟩ := p_ch49 (N := N) (h := 3) (s := s) (past := p1) (by omega) (by omega)
    obtain ⟨o', r', w', y1, y2⟩ := p_copyFrom (N := N) (n := n) (o := o) (r := r) (w := w) (o2 := a0) (r2 := a1) (w2 := a2) (z := a3) (by omega) hn
    obtain ⟨V', F'⟩ := FQ_copy V hF y2
    refine ⟨rot ah, 4, b0, b1, b2, b3, c0, c1, c2, c3, d0, d1, d2, d3, o', r', w', nI n, 4, p2, ?_, ?_, 4, by omega, rfl, rfl, fun i hi => ?_⟩
    · unfold f_X3_recordState
      simp only [if_neg (show ¬ (nI 4 < 4) by decide), f_X3_dropOldestState, Option.bind_some, if_neg (show ¬ (3 : Int32) = 0 by decide), if_neg (show ¬ (3 : Int32) = 1 by decide), if_neg (show ¬ (3 : Int32) = 2 by decide), if_true, y1, f_X3_forgetFindings]
      rfl
    · unfold f_X4_changes
      have q3 : f_X4_changes_L49 N s (nI 4 - 1) N 0 p1 = some p2 := q3
      simp only [if_pos (show nI 4 = 4 from rfl), q1, Option.bind_some, q3]
      rfl
    · rcases (show i = 0 ∨ i = 1 ∨ i = 2 ∨ i = 3 by omega) with rfl | rfl | rfl | rfl
      · exact FQ_s (hh 1 (by omega)) (fun j hj => by
          show p2 (37 * 0 + j) = past (37 * 1 + j)
          rw [q5 _ (by omega), q2 _ (by omega)]; congr 1; omega)
      · exact FQ_s (hh 2 (by omega)) (fun j hj => by
          show p2 (37 * 1 + j) = past (37 * 2 + j)
          rw [q5 _ (by omega), q2 _ (by omega)]; congr 1; omega)
      · exact FQ_s (hh 3 (by omega)) (fun j hj => by
          show p2 (37 * 2 + j) = past (37 * 3 + j)
          rw [q5 _ (by omega), q2 _ (by omega)]; congr 1; omega)
      · exact ⟨n, rfl, V', FE_s hn F' (fun j hj => q4 j hj)⟩
  · obtain ⟨p2, q3, q4, q5⟩ := p_ch49 (N := N) (h := h) (s := s) (past := past) (by omega) (by omega)
    have hch : f_X4_changes N s past (nI h) = some (p2, nI (h + 1)) := by
      unfold f_X4_changes
      have e5 : ¬ nI h = 4 := nI_ne (b := 4) (by omega) (by omega) e4
      simp only [if_neg e5, Option.bind_some, q3, nI_1]
    have old : ∀ {i : Nat} {q : FV}, i < h → FQ q (fun j => past (37 * i + j)) → FQ q (fun j => p2 (37 * i + j)) := fun {i q} hi hq => FQ_s hq (fun j hj => by
      show p2 (37 * i + j) = past (37 * i + j)
      exact q5 _ (by omega))
    rcases (show h = 0 ∨ h = 1 ∨ h = 2 ∨ h = 3 by omega) with rfl | rfl | rfl | rfl
    · obtain ⟨o', r', w', y1, y2⟩ := p_copyFrom (N := N) (n := n) (o := o) (r := r) (w := w) (o2 := a0) (r2 := a1) (w2 := a2) (z := a3) (by omega) hn
      obtain ⟨V', F'⟩ := FQ_copy V hF y2
      refine ⟨ah, 1, o', r', w', nI n, b0, b1, b2, b3, c0, c1, c2, c3, d0, d1, d2, d3, _, _, ?_, hch, 1, by omega, rfl, rfl, fun i hi => ?_⟩
      · unfold f_X3_recordState
        simp only [if_pos (show (nI 0 < 4) by decide), Option.bind_some, if_pos (show nI 0 = 0 from rfl), y1, f_X3_forgetFindings]
        rfl
      · obtain rfl : i = 0 := by omega
        exact ⟨n, rfl, V', FE_s hn F' (fun j hj => q4 j hj)⟩
    · obtain ⟨o', r', w', y1, y2⟩ := p_copyFrom (N := N) (n := n) (o := o) (r := r) (w := w) (o2 := b0) (r2 := b1) (w2 := b2) (z := b3) (by omega) hn
      obtain ⟨V', F'⟩ := FQ_copy V hF y2
      refine ⟨ah, 2, a0, a1, a2, a3, o', r', w', nI n, c0, c1, c2, c3, d0, d1, d2, d3, _, _, ?_, hch, 2, by omega, rfl, rfl, fun i hi => ?_⟩
      · unfold f_X3_recordState
        simp only [if_pos (show (nI 1 < 4) by decide), Option.bind_some, if_neg (show ¬ nI 1 = 0 by decide), if_pos (show nI 1 = 1 from rfl), y1, f_X3_forgetFindings]
        rfl
      · rcases (show i = 0 ∨ i = 1 by omega) with rfl | rfl
        · exact old (by omega) (hh 0 (by omega))
        · exact ⟨n, rfl, V', FE_s hn F' (fun j hj => q4 j hj)⟩
    · obtain ⟨o', r', w', y1, y2⟩ := p_copyFrom (N := N) (n := n) (o := o) (r := r) (w := w) (o2 := c0) (r2 := c1) (w2 := c2) (z := c3) (by omega) hn
      obtain ⟨V', F'⟩ := FQ_copy V hF y2
      refine ⟨ah, 3, a0, a1, a2, a3, b0, b1, b2, b3, o', r', w', nI n, d0, d1, d2, d3, _, _, ?_, hch, 3, by omega, rfl, rfl, fun i hi => ?_⟩
      · unfold f_X3_recordState
        simp only [if_pos (show (nI 2 < 4) by decide), Option.bind_some, if_neg (show ¬ nI 2 = 0 by decide), if_neg (show ¬ nI 2 = 1 by decide), if_pos (show nI 2 = 2 from rfl), y1, f_X3_forgetFindings]
        rfl
      · rcases (show i = 0 ∨ i = 1 ∨ i = 2 by omega) with rfl | rfl | rfl
        · exact old (by omega) (hh 0 (by omega))
        · exact old (by omega) (hh 1 (by omega))
        · exact ⟨n, rfl, V', FE_s hn F' (fun j hj => q4 j hj)⟩
    · obtain ⟨o', r', w', y1, y2⟩ := p_copyFrom (N := N) (n := n) (o := o) (r := r) (w := w) (o2 := d0) (r2 := d1) (w2 := d2) (z := d3) (by omega) hn
      obtain ⟨V', F'⟩ := FQ_copy V hF y2
      refine ⟨ah, 4, a0, a1, a2, a3, b0, b1, b2, b3, c0, c1, c2, c3, o', r', w', nI n, _, _, ?_, hch, 4, by omega, rfl, rfl, fun i hi => ?_⟩
      · unfold f_X3_recordState
        simp only [if_pos (show (nI 3 < 4) by decide), Option.bind_some, if_neg (show ¬ nI 3 = 0 by decide), if_neg (show ¬ nI 3 = 1 by decide), if_neg (show ¬ nI 3 = 2 by decide), if_pos (show nI 3 = 3 from rfl), y1, f_X3_forgetFindings]
        rfl
      · rcases (show i = 0 ∨ i = 1 ∨ i = 2 ∨ i = 3 by omega) with rfl | rfl | rfl | rfl
        · exact old (by omega) (hh 0 (by omega))
        · exact old (by omega) (hh 1 (by omega))
        · exact old (by omega) (hh 2 (by omega))
        · exact ⟨n, rfl, V', FE_s hn F' (fun j hj => q4 j hj)⟩
