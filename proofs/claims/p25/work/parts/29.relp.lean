/-! the class's state: choices; copies; a change is recorded -/
def bit (u : Nat) : Int32 := 1 <<< (nI u &&& 31)
/-- the choices: settled place by place -/
def CS (n : Nat) (o r w : Nat → Int32) (R : Int32) (tws : Nat → Nat → Int32) (ch : Nat → Int32) (m : Nat) : Prop :=
  (∀ v, v < n → tws 0 v = w v) ∧ ∀ k, k < m →
    (w k = 0 → ch k = -4 ∧ ∀ v, v < n → tws (k + 1) v = tws k v) ∧
    (¬ w k = 0 → bt R k = decide (owN o k = 0) → ∃ u, u < n ∧ ch k = nI u ∧ bt (w k) u = true ∧ WinS n o r (upd (tws k) k (bit u)) R ∧ (∀ u', u' < u → bt (w k) u' = true → ¬ WinS n o r (upd (tws k) k (bit u')) R) ∧ ∀ v, v < n → tws (k + 1) v = upd (tws k) k (bit u) v) ∧
    (¬ w k = 0 → ¬ bt R k = decide (owN o k = 0) → ch k = nI (low (bt (w k)) 12 0) ∧ ∀ v, v < n → tws (k + 1) v = tws k v)
def ChoS (n : Nat) (o r w ch : Nat → Int32) : Prop := ∃ R tws, WinS n o r w R ∧ CS n o r w R tws ch n
theorem i00 {α : Type} {a b : α} : (if (0 : Int32) = 0 then a else b) = a := if_pos rfl
theorem i10 {α : Type} {a b : α} : (if (1 : Int32) = 0 then a else b) = b := if_neg (by decide)
theorem upd_s {f : Nat → Int32} {k : Nat} {v : Int32} : upd f k v k = v := if_pos rfl
theorem upd_n {f : Nat → Int32} {k j : Nat} {v : Int32} (h : j ≠ k) : upd f k v j = f j := if_neg h
theorem rkN_nI {r : Nat → Int32} {k j : Nat} (h : r k = nI j) (hj : j < 6) : r k = nI (rkN r k) ∧ rkN r k < 6 := by
  unfold rkN
  rw [h, nI_clamp (by omega)]
  exact ⟨rfl, hj⟩
theorem p_copyFrom {N n : Nat} {o r w o2 r2 w2 : Nat → Int32} {z : Int32} (hN : 13 ≤ N) (hn : n ≤ 12) :
    ∃ o' r' w', f_X0_copyFrom N o2 r2 w2 z o r w (nI n) = some (o', r', w', nI n) ∧ ∀ k, k < n → o' k = o k ∧ r' k = r k ∧ w' k = w k := by
  obtain ⟨y, e1, e2⟩ := for_inv (fun m k (t : (Nat → Int32) × (Nat → Int32) × (Nat → Int32)) => f_X0_copyFrom_L10 N (nI n) o r w m k t.1 t.2.1 t.2.2) n
    (fun k t => ∀ j, j < k → t.1 j = o j ∧ t.2.1 j = r j ∧ t.2.2 j = w j) (fun t => ∀ j, j < n → t.1 j = o j ∧ t.2.1 j = r j ∧ t.2.2 j = w j)
    (fun m t ht => ⟨t, by simp only [f_X0_copyFrom_L10]; rw [if_pos (Int32.le_refl _)], ht⟩)
    (fun m k t hk ht => Or.inr ⟨(upd t.1 k (o k), upd t.2.1 k (r k), upd t.2.2 k (w k)), by
      obtain ⟨k1, k2, k3, k4⟩ := idx hk hn
      simp only [f_X0_copyFrom_L10, if_neg k1, chk_t k2, k3, k4], fun j hj => by
      simp only [upd]
      by_cases e : j = k
      · subst e; simp
      · rw [if_neg e, if_neg e, if_neg e]; exact ht j (by omega)⟩)
    0 N (o2, r2, w2) (by omega) (by omega) (fun j hj => by omega)
  refine ⟨y.1, y.2.1, y.2.2, ?_, e2⟩
  have e1 : f_X0_copyFrom_L10 N (nI n) o r w N 0 o2 r2 w2 = some y := e1
  simp only [f_X0_copyFrom, e1, Option.bind_some]
theorem p_record {N n h : Nat} {ah : Nat → Nat} {o r w : Nat → Int32} {a0 a1 a2 b0 b1 b2 c0 c1 c2 d0 d1 d2 : Nat → Int32} {a3 b3 c3 d3 wk ck : Int32} (hN : 14 ≤ N) (hn : n ≤ 12) (h4 : h ≤ 4) :
    ∃ ah' h' e0 e1 e2 e3 f0 f1 f2 f3 g0 g1 g2 g3 i0 i1 i2 i3, h' ≤ 4 ∧ f_X3_recordState N ah o r w (nI n) a0 a1 a2 a3 b0 b1 b2 b3 c0 c1 c2 c3 d0 d1 d2 d3 (nI h) wk ck = some (ah', e0, e1, e2, e3, f0, f1, f2, f3, g0, g1, g2, g3, i0, i1, i2, i3, nI h', 0, 0) := by
  by_cases e4 : h = 4
  · subst e4
    obtain ⟨o', r', w', y1, y2⟩ := p_copyFrom (N := N) (n := n) (o := o) (r := r) (w := w) (o2 := a0) (r2 := a1) (w2 := a2) (z := a3) (by omega) hn
    refine ⟨rot ah, 4, b0, b1, b2, b3, c0, c1, c2, c3, d0, d1, d2, d3, o', r', w', nI n, by omega, ?_⟩
    unfold f_X3_recordState
    simp only [if_neg (show ¬ (nI 4 < 4) by decide), f_X3_dropOldestState, Option.bind_some, if_neg (show ¬ (3 : Int32) = 0 by decide), if_neg (show ¬ (3 : Int32) = 1 by decide), if_neg (show ¬ (3 : Int32) = 2 by decide), if_true, y1, f_X3_forgetFindings]
    rfl
  · rcases (show h = 0 ∨ h = 1 ∨ h = 2 ∨ h = 3 by omega) with rfl | rfl | rfl | rfl
    · obtain ⟨o', r', w', y1, y2⟩ := p_copyFrom (N := N) (n := n) (o := o) (r := r) (w := w) (o2 := a0) (r2 := a1) (w2 := a2) (z := a3) (by omega) hn
      refine ⟨ah, 1, o', r', w', nI n, b0, b1, b2, b3, c0, c1, c2, c3, d0, d1, d2, d3, by omega, ?_⟩
      unfold f_X3_recordState
      simp only [if_pos (show (nI 0 < 4) by decide), Option.bind_some, if_pos (show nI 0 = 0 from rfl), y1, f_X3_forgetFindings]
      rfl
    · obtain ⟨o', r', w', y1, y2⟩ := p_copyFrom (N := N) (n := n) (o := o) (r := r) (w := w) (o2 := b0) (r2 := b1) (w2 := b2) (z := b3) (by omega) hn
      refine ⟨ah, 2, a0, a1, a2, a3, o', r', w', nI n, c0, c1, c2, c3, d0, d1, d2, d3, by omega, ?_⟩
      unfold f_X3_recordState
      simp only [if_pos (show (nI 1 < 4) by decide), Option.bind_some, if_neg (show ¬ nI 1 = 0 by decide), if_pos (show nI 1 = 1 from rfl), y1, f_X3_forgetFindings]
      rfl
    · obtain ⟨o', r', w', y1, y2⟩ := p_copyFrom (N := N) (n := n) (o := o) (r := r) (w := w) (o2 := c0) (r2 := c1) (w2 := c2) (z := c3) (by omega) hn
      refine ⟨ah, 3, a0, a1, a2, a3, b0, b1, b2, b3, o', r', w', nI n, d0, d1, d2, d3, by omega, ?_⟩
      unfold f_X3_recordState
      simp only [if_pos (show (nI 2 < 4) by decide), Option.bind_some, if_neg (show ¬ nI 2 = 0 by decide), if_neg (show ¬ nI 2 = 1 by decide), if_pos (show nI 2 = 2 from rfl), y1, f_X3_forgetFindings]
      rfl
    · obtain ⟨o', r', w', y1, y2⟩ := p_copyFrom (N := N) (n := n) (o := o) (r := r) (w := w) (o2 := d0) (r2 := d1) (w2 := d2) (z := d3) (by omega) hn
      refine ⟨ah, 4, a0, a1, a2, a3, b0, b1, b2, b3, c0, c1, c2, c3, o', r', w', nI n, by omega, ?_⟩
      unfold f_X3_recordState
      simp only [if_pos (show (nI 3 < 4) by decide), Option.bind_some, if_neg (show ¬ nI 3 = 0 by decide), if_neg (show ¬ nI 3 = 1 by decide), if_neg (show ¬ nI 3 = 2 by decide), if_pos (show nI 3 = 3 from rfl), y1, f_X3_forgetFindings]
      rfl
/-- what holds of the class's state, with n places -/
def RS (n : Nat) (S : XS) : Prop := S.2.1 0 = nI n ∧ VF n (S.2.2 0) (S.2.2 1) (S.2.2 2) ∧ (¬ S.2.1 10 = 0 → WinS n (S.2.2 0) (S.2.2 1) (S.2.2 2) (S.2.1 11)) ∧ (¬ S.2.1 12 = 0 → ChoS n (S.2.2 0) (S.2.2 1) (S.2.2 2) (S.2.2 27) ∧ ¬ S.2.1 10 = 0) ∧ ∃ h, h ≤ 4 ∧ S.2.1 8 = nI h
theorem mk1 {A : Option (Int32 × XS)} {r : Int32} {S2 : XS} {P : XS → Prop} (h1 : A = some (r, S2)) (h : P S2) : ∃ S2, A = some (r, S2) ∧ P S2 := ⟨S2, h1, h⟩
theorem e_player {N i : Nat} (hi : i < 2) : f_X3_isPlayer N (nI i) = some 1 := by
  rcases (show i = 0 ∨ i = 1 by omega) with rfl | rfl <;> rfl
theorem e_rank {N j : Nat} (hj : j < 6) : f_X3_isRank N (nI j) = some 1 := by
  unfold f_X3_isRank
  rw [if_neg (nI_pos (by omega)), if_neg (show ¬ (6 : Int32) ≤ nI j from nI_ge (b := 6) (by omega) (by omega))]
theorem e_has {N n k : Nat} (hn : n ≤ 12) (hk : k < n) : f_X0_has N (nI k) (nI n) = some 1 := by
  unfold f_X0_has
  rw [if_neg (nI_pos (by omega)), if_neg (nI_ge hk (by omega)), if_neg (show ¬ (12 : Int32) ≤ nI k from nI_ge (b := 12) (by omega) (by omega))]
theorem e_hasn {N n : Nat} (hn : n ≤ 12) : f_X0_has N (nI n) (nI n) = some 0 := by
  unfold f_X0_has
  rw [if_neg (nI_pos (by omega)), if_pos (Int32.le_refl _)]
theorem e_hasm {N : Nat} {x : Int32} : f_X0_has N (-1) x = some 0 := by
  unfold f_X0_has
  rw [if_pos (by decide)]
/-- nothing of the text changes -/
def Tx (S S2 : XS) : Prop := S2.2.1 13 = S.2.1 13 ∧ S2.2.2 24 = S.2.2 24
theorem q_own {N n k i : Nat} {S : XS} (hN : 14 ≤ N) (h : RS n S) (hk : k < n) (hi : i < 2) : ∃ S2, x_own N (nI k) (nI i) S = some (S.2.2 0 k, S2) ∧ RS n S2 ∧ Tx S S2 ∧ S2.2.2 0 = upd (S.2.2 0) k (nI i) ∧ S2.2.2 1 = S.2.2 1 ∧ S2.2.2 2 = S.2.2 2 := by
  obtain ⟨hz, V, hw, hc, hh, h4, hs⟩ := h
  have hn := V.1
  obtain ⟨ah', h', e0, e1, e2, e3, f0, f1, f2, f3, g0, g1, g2, g3, i0, i1, i2, i3, h4', hrec⟩ := p_record (N := N) (ah := S.1) (o := S.2.2 0) (r := S.2.2 1) (w := S.2.2 2) (a0 := S.2.2 3) (a1 := S.2.2 4) (a2 := S.2.2 5) (a3 := S.2.1 1) (b0 := S.2.2 6) (b1 := S.2.2 7) (b2 := S.2.2 8) (b3 := S.2.1 2) (c0 := S.2.2 9) (c1 := S.2.2 10) (c2 := S.2.2 11) (c3 := S.2.1 3) (d0 := S.2.2 12) (d1 := S.2.2 13) (d2 := S.2.2 14) (d3 := S.2.1 4) (wk := S.2.1 10) (ck := S.2.1 12) hN hn h4
  obtain ⟨k1, k2, k3, k4⟩ := idx hk hn
  refine mk1 (by simp only [x_own, f_X3_own, hz, hs, e_has hn hk, e_player hi, i10, Option.bind_some, hrec, chk_t k2, k3]; rfl) ?_
  refine ⟨⟨hz, ⟨hn, fun j hj => ?_⟩, fun h => absurd rfl h, fun h => absurd rfl h, h', h4', rfl⟩, ⟨rfl, rfl⟩, rfl, rfl, rfl⟩
  refine ⟨?_, (V.2 j hj).2⟩
  show upd (S.2.2 0) k (nI i) j = 0 ∨ upd (S.2.2 0) k (nI i) j = 1
  by_cases e : j = k
  · rw [e, upd_s]; rcases (show i = 0 ∨ i = 1 by omega) with rfl | rfl
    · exact Or.inl rfl
    · exact Or.inr rfl
  · rw [upd_n e]; exact (V.2 j hj).1
theorem q_rank {N n k i : Nat} {S : XS} (hN : 14 ≤ N) (h : RS n S) (hk : k < n) (hi : i < 6) : ∃ S2, x_rank N (nI k) (nI i) S = some (S.2.2 1 k, S2) ∧ RS n S2 ∧ Tx S S2 ∧ S2.2.2 0 = S.2.2 0 ∧ S2.2.2 1 = upd (S.2.2 1) k (nI i) ∧ S2.2.2 2 = S.2.2 2 := by
  obtain ⟨hz, V, hw, hc, hh, h4, hs⟩ := h
  have hn := V.1
  obtain ⟨ah', h', e0, e1, e2, e3, f0, f1, f2, f3, g0, g1, g2, g3, i0, i1, i2, i3, h4', hrec⟩ := p_record (N := N) (ah := S.1) (o := S.2.2 0) (r := S.2.2 1) (w := S.2.2 2) (a0 := S.2.2 3) (a1 := S.2.2 4) (a2 := S.2.2 5) (a3 := S.2.1 1) (b0 := S.2.2 6) (b1 := S.2.2 7) (b2 := S.2.2 8) (b3 := S.2.1 2) (c0 := S.2.2 9) (c1 := S.2.2 10) (c2 := S.2.2 11) (c3 := S.2.1 3) (d0 := S.2.2 12) (d1 := S.2.2 13) (d2 := S.2.2 14) (d3 := S.2.1 4) (wk := S.2.1 10) (ck := S.2.1 12) hN hn h4
  obtain ⟨k1, k2, k3, k4⟩ := idx hk hn
  refine mk1 (by simp only [x_rank, f_X3_rank, hz, hs, e_has hn hk, e_rank hi, i10, Option.bind_some, hrec, chk_t k2, k3]; rfl) ?_
  refine ⟨⟨hz, ⟨hn, fun j hj => ?_⟩, fun h => absurd rfl h, fun h => absurd rfl h, h', h4', rfl⟩, ⟨rfl, rfl⟩, rfl, rfl, rfl⟩
  refine ⟨(V.2 j hj).1, ?_, (V.2 j hj).2.2⟩
  show upd (S.2.2 1) k (nI i) j = nI (rkN (upd (S.2.2 1) k (nI i)) j) ∧ rkN (upd (S.2.2 1) k (nI i)) j < 6
  by_cases e : j = k
  · exact rkN_nI (by rw [e, upd_s]) hi
  · exact rkN_nI (j := rkN (S.2.2 1) j) (by rw [upd_n e]; exact (V.2 j hj).2.1.1) (V.2 j hj).2.1.2
theorem q_way0 {N n k j i : Nat} {S : XS} (h : RS n S) (hk : k < n) (hj : j < n) (hi : i < 2) (he : (bt (S.2.2 2 k) j = true) ↔ i = 1) : ∃ S2, x_way N (nI k) (nI j) (nI i) S = some (-2, S2) ∧ RS n S2 ∧ Tx S S2 ∧ S2.2.2 0 = S.2.2 0 ∧ S2.2.2 1 = S.2.2 1 ∧ S2.2.2 2 = S.2.2 2 := by
  have h0 := h
  obtain ⟨hz, V, hw, hc, hh, h4, hs⟩ := h
  have hn := V.1
  obtain ⟨k1, k2, k3, k4⟩ := idx hk hn
  have d3 : ¬ nI i < 0 := nI_pos (by omega)
  have d4 : nI i ≤ 1 := nI_le (b := 1) (by omega) (by omega)
  have hcont := f_contains (N := N) (x := S.2.2 2 k) (k := j) (by omega)
  have h01 : (if nI i = 1 then (some (1 : Int32)) else some 0) = some (if i = 1 then 1 else 0) := by
    rcases (show i = 0 ∨ i = 1 by omega) with rfl | rfl <;> rfl
  have e : (if bt (S.2.2 2 k) j = true then (1 : Int32) else 0) = (if i = 1 then 1 else 0) := by simp only [he]
  refine mk1 (by simp only [x_way, f_X3_way, hz, e_has hn hk, e_has hn hj, i10, Option.bind_some, if_neg d3, if_pos d4, chk_t k2, k3, hcont, h01, if_pos e]; rfl) ?_
  exact ⟨⟨hz, V, hw, hc, hh, h4, hs⟩, ⟨rfl, rfl⟩, rfl, rfl, rfl⟩
theorem q_way1 {N n k j i : Nat} {S : XS} (hN : 14 ≤ N) (h : RS n S) (hk : k < n) (hj : j < n) (hi : i < 2) (he : ¬ ((bt (S.2.2 2 k) j = true) ↔ i = 1)) : ∃ S2, x_way N (nI k) (nI j) (nI i) S = some (nI (cn (bt ((S.2.2 2 k) ^^^ (1 <<< (nI j &&& 31)))) 12), S2) ∧ RS n S2 ∧ Tx S S2 ∧ S2.2.2 0 = S.2.2 0 ∧ S2.2.2 1 = S.2.2 1 ∧ S2.2.2 2 = upd (S.2.2 2) k ((S.2.2 2 k) ^^^ (1 <<< (nI j &&& 31))) := by
  obtain ⟨hz, V, hw, hc, hh, h4, hs⟩ := h
  have hn := V.1
  obtain ⟨ah', h', e0, e1, e2, e3, f0, f1, f2, f3, g0, g1, g2, g3, i0, i1, i2, i3, h4', hrec⟩ := p_record (N := N) (ah := S.1) (o := S.2.2 0) (r := S.2.2 1) (w := S.2.2 2) (a0 := S.2.2 3) (a1 := S.2.2 4) (a2 := S.2.2 5) (a3 := S.2.1 1) (b0 := S.2.2 6) (b1 := S.2.2 7) (b2 := S.2.2 8) (b3 := S.2.1 2) (c0 := S.2.2 9) (c1 := S.2.2 10) (c2 := S.2.2 11) (c3 := S.2.1 3) (d0 := S.2.2 12) (d1 := S.2.2 13) (d2 := S.2.2 14) (d3 := S.2.1 4) (wk := S.2.1 10) (ck := S.2.1 12) hN hn h4
  obtain ⟨k1, k2, k3, k4⟩ := idx hk hn
  have d3 : ¬ nI i < 0 := nI_pos (by omega)
  have d4 : nI i ≤ 1 := nI_le (b := 1) (by omega) (by omega)
  have hcont := f_contains (N := N) (x := S.2.2 2 k) (k := j) (by omega)
  have h01 : (if nI i = 1 then (some (1 : Int32)) else some 0) = some (if i = 1 then 1 else 0) := by
    rcases (show i = 0 ∨ i = 1 by omega) with rfl | rfl <;> rfl
  have e : ¬ (if bt (S.2.2 2 k) j = true then (1 : Int32) else 0) = (if i = 1 then 1 else 0) := by
    intro h
    apply he
    by_cases a : bt (S.2.2 2 k) j = true <;> by_cases b : i = 1 <;> simp_all
  have hsub : Sub n ((S.2.2 2 k) ^^^ (1 <<< (nI j &&& 31))) := fun u hu1 hu2 => by
    rw [b_xor, (V.2 k hk).2.2 u hu1 hu2, Sub.bit hj (by omega) u hu1 hu2]; rfl
  have hbc := f_bitCount (N := N) (hsub.mono hn)
  refine mk1 (by simp only [x_way, f_X3_way, hz, hs, e_has hn hk, e_has hn hj, i10, Option.bind_some, if_neg d3, if_pos d4, chk_t k2, k3, hcont, h01, if_neg e, hrec, upd_s, hbc]; rfl) ?_
  refine ⟨⟨hz, ⟨hn, fun u hu => ?_⟩, fun h => absurd rfl h, fun h => absurd rfl h, h', h4', rfl⟩, ⟨rfl, rfl⟩, rfl, rfl, rfl⟩
  refine ⟨(V.2 u hu).1, (V.2 u hu).2.1, ?_⟩
  show Sub n (upd (S.2.2 2) k ((S.2.2 2 k) ^^^ (1 <<< (nI j &&& 31))) u)
  by_cases e : u = k
  · rw [e, upd_s]; exact hsub
  · rw [upd_n e]; exact (V.2 u hu).2.2
theorem q_add {N n i j : Nat} {S : XS} (hN : 14 ≤ N) (h : RS n S) (hn12 : n < 12) (hi : i < 2) (hj : j < 6) : ∃ S2, x_add N (nI i) (nI j) S = some (nI n, S2) ∧ RS (n + 1) S2 ∧ Tx S S2 ∧ S2.2.2 0 = upd (S.2.2 0) n (nI i) ∧ S2.2.2 1 = upd (S.2.2 1) n (nI j) ∧ S2.2.2 2 = upd (S.2.2 2) n 0 := by
  obtain ⟨hz, V, hw, hc, hh, h4, hs⟩ := h
  have hn := V.1
  obtain ⟨ah', h', e0, e1, e2, e3, f0, f1, f2, f3, g0, g1, g2, g3, i0, i1, i2, i3, h4', hrec⟩ := p_record (N := N) (ah := S.1) (o := S.2.2 0) (r := S.2.2 1) (w := S.2.2 2) (a0 := S.2.2 3) (a1 := S.2.2 4) (a2 := S.2.2 5) (a3 := S.2.1 1) (b0 := S.2.2 6) (b1 := S.2.2 7) (b2 := S.2.2 8) (b3 := S.2.1 2) (c0 := S.2.2 9) (c1 := S.2.2 10) (c2 := S.2.2 11) (c3 := S.2.1 3) (d0 := S.2.2 12) (d1 := S.2.2 13) (d2 := S.2.2 14) (d3 := S.2.1 4) (wk := S.2.1 10) (ck := S.2.1 12) hN hn h4
  have hlt : nI n < 12 := nI_lt (b := 12) (by omega) (by omega)
  have hnl : ¬ (12 : Int32) ≤ nI n := nI_ge (b := 12) (by omega) (by omega)
  have q4 := gi_ok (show n < 12 by omega) (by omega)
  refine mk1 (by simp only [x_add, f_X3_add, hz, hs, e_player hi, e_rank hj, i10, Option.bind_some, if_pos hlt, hrec, f_X0_append, if_neg hnl, chk_t q4, nI_clamp (show n < 2 ^ 31 by omega), nI_1, nI_pred]; rfl) ?_
  refine ⟨⟨rfl, ⟨by omega, fun u hu => ?_⟩, fun h => absurd rfl h, fun h => absurd rfl h, h', h4', rfl⟩, ⟨rfl, rfl⟩, rfl, rfl, rfl⟩
  show (upd (S.2.2 0) n (nI i) u = 0 ∨ upd (S.2.2 0) n (nI i) u = 1) ∧ (upd (S.2.2 1) n (nI j) u = nI (rkN (upd (S.2.2 1) n (nI j)) u) ∧ rkN (upd (S.2.2 1) n (nI j)) u < 6) ∧ Sub (n + 1) (upd (S.2.2 2) n 0 u)
  by_cases eu : u = n
  · subst eu
    refine ⟨?_, rkN_nI upd_s hj, ?_⟩
    · rw [upd_s]
      rcases (show i = 0 ∨ i = 1 by omega) with rfl | rfl
      · exact Or.inl rfl
      · exact Or.inr rfl
    · rw [upd_s]; exact Sub.zero
  · obtain ⟨v1, v2, v3⟩ := V.2 u (by omega)
    exact ⟨by rw [upd_n eu]; exact v1, rkN_nI (j := rkN (S.2.2 1) u) (by rw [upd_n eu]; exact v2.1) v2.2, by rw [upd_n eu]; exact v3.mono (by omega)⟩
def sk (p k : Nat) : Nat := if k < p then k else k + 1
def dr (p : Nat) (x : Int32) : Int32 := (x &&& (((1 : Int32) <<< (nI p &&& 31)) - 1)) ||| ((x >>> ((1 : Int32) &&& 31)) &&& ((((1 : Int32) <<< (nI p &&& 31)) - 1) ^^^ (-1)))
theorem dr_sub {n p : Nat} {x : Int32} (hp : p < n) (hn : n ≤ 12) (h : Sub n x) : Sub (n - 1) (dr p x) := by
  intro i h1 h2
  unfold dr
  rw [b_or, b_and, b_and, bt_not _ h2, bt_all p (by omega) i h2, show bt (x >>> ((1 : Int32) &&& 31)) i = _ from b_sshr 1 (by omega) x h2]
  have e1 : decide (i < p) = false := by simp; omega
  rw [e1]
  by_cases e : 1 + i < 32
  · rw [if_pos e, h (1 + i) (by omega) e]; simp
  · rw [if_neg e, h 31 (by omega) (by omega)]; simp
theorem p_remove {N n p : Nat} {o r w : Nat → Int32} (hN : 14 ≤ N) (hn : n ≤ 12) (hp : p < n) : ∃ o' r' w', f_X0_remove N (nI p) o r w (nI n) = some (o', r', w', nI (n - 1)) ∧ ∀ k, k < n - 1 → o' k = o (sk p k) ∧ r' k = r (sk p k) ∧ w' k = dr p (w (sk p k)) := by
  have hpred : nI n - 1 = nI (n - 1) := by
    obtain ⟨n, rfl⟩ : ∃ m, n = m + 1 := ⟨n - 1, by omega⟩
    exact nI_pred n
  obtain ⟨y, e1, e2⟩ := for_inv (fun m k (t : (Nat → Int32) × (Nat → Int32) × (Nat → Int32)) => f_X0_remove_L2 N (nI n) m k t.1 t.2.1 t.2.2) (n - 1)
    (fun k t => p ≤ k ∧ (∀ j, j < k → t.1 j = o (sk p j) ∧ t.2.1 j = r (sk p j) ∧ t.2.2 j = w (sk p j)) ∧ ∀ j, k ≤ j → t.1 j = o j ∧ t.2.1 j = r j ∧ t.2.2 j = w j)
    (fun t => ∀ j, j < n - 1 → t.1 j = o (sk p j) ∧ t.2.1 j = r (sk p j) ∧ t.2.2 j = w (sk p j))
    (fun m t ht => ⟨t, by
      simp only [f_X0_remove_L2, nI_1]
      rw [if_pos (nI_le (by omega) (by omega))], ht.2.1⟩)
    (fun m k t hk ht => Or.inr ⟨(upd t.1 k (t.1 (k + 1)), upd t.2.1 k (t.2.1 (k + 1)), upd t.2.2 k (t.2.2 (k + 1))), by
      have k1 : ¬ nI n ≤ nI (k + 1) := nI_ge (by omega) (by omega)
      simp only [f_X0_remove_L2, nI_1, if_neg k1, chk_t (gi_ok (show k + 1 < 12 by omega) (by omega)), chk_t (gi_ok (show k < 12 by omega) (by omega)), nI_clamp (show k < 2 ^ 31 by omega), nI_clamp (show k + 1 < 2 ^ 31 by omega)], by omega, fun j hj => by
      simp only [upd]
      by_cases e : j = k
      · subst e
        obtain ⟨z1, z2, z3⟩ := ht.2.2 (j + 1) (by omega)
        have hs : sk p j = j + 1 := by unfold sk; rw [if_neg (by omega)]
        rw [if_pos rfl, if_pos rfl, if_pos rfl, hs]
        exact ⟨z1, z2, z3⟩
      · rw [if_neg e, if_neg e, if_neg e]; exact ht.2.1 j (by omega), fun j hj => by
      simp only [upd]
      rw [if_neg (by omega), if_neg (by omega), if_neg (by omega)]
      exact ht.2.2 j (by omega)⟩)
    p N (o, r, w) (by omega) (by omega) ⟨Nat.le_refl _, fun j hj => by
      have hs : sk p j = j := by unfold sk; rw [if_pos hj]
      rw [hs]; exact ⟨rfl, rfl, rfl⟩, fun j _ => ⟨rfl, rfl, rfl⟩⟩
  obtain ⟨w', g1, g2⟩ := for_inv (fun m k (t : Nat → Int32) => f_X0_remove_L78 N ((1 <<< (nI p &&& 31)) - 1) (nI (n - 1)) m k t) (n - 1)
    (fun k t => (∀ j, j < k → t j = dr p (y.2.2 j)) ∧ ∀ j, k ≤ j → t j = y.2.2 j) (fun t => ∀ j, j < n - 1 → t j = dr p (y.2.2 j))
    (fun m t ht => ⟨t, by simp only [f_X0_remove_L78]; rw [if_pos (Int32.le_refl _)], ht.1⟩)
    (fun m k t hk ht => Or.inr ⟨upd t k (dr p (t k)), by
      have k1 : ¬ nI (n - 1) ≤ nI k := nI_ge (by omega) (by omega)
      simp only [f_X0_remove_L78, if_neg k1, chk_t (gi_ok (show k < 12 by omega) (by omega)), nI_clamp (show k < 2 ^ 31 by omega), nI_1]
      rfl, fun j hj => by
      simp only [upd]
      by_cases e : j = k
      · rw [if_pos e, ht.2 k (Nat.le_refl _), e]
      · rw [if_neg e]; exact ht.1 j (by omega), fun j hj => by
      simp only [upd]
      rw [if_neg (by omega)]
      exact ht.2 j (by omega)⟩)
    0 N y.2.2 (by omega) (by omega) ⟨fun j hj => by omega, fun j _ => rfl⟩
  refine ⟨y.1, y.2.1, w', ?_, fun k hk => ⟨(e2 k hk).1, (e2 k hk).2.1, by rw [g2 k hk, (e2 k hk).2.2]⟩⟩
  have e1 : f_X0_remove_L2 N (nI n) N (nI p) o r w = some y := e1
  have g1 : f_X0_remove_L78 N ((1 <<< (nI p &&& 31)) - 1) (nI (n - 1)) N 0 y.2.2 = some w' := g1
  simp only [f_X0_remove, e1, Option.bind_some, hpred, g1]
theorem sk_lt {n k u : Nat} (hk : k < n) (hu : u < n - 1) : sk k u < n := by unfold sk; split <;> omega
theorem q_drop {N n k : Nat} {S : XS} (hN : 14 ≤ N) (h : RS n S) (hk : k < n) : ∃ S2, x_drop N (nI k) S = some (nI (n - 1), S2) ∧ RS (n - 1) S2 ∧ Tx S S2 ∧ ∀ u, u < n - 1 → S2.2.2 0 u = S.2.2 0 (sk k u) ∧ S2.2.2 1 u = S.2.2 1 (sk k u) ∧ S2.2.2 2 u = dr k (S.2.2 2 (sk k u)) := by
  obtain ⟨hz, V, hw, hc, hh, h4, hs⟩ := h
  have hn := V.1
  obtain ⟨ah', h', e0, e1, e2, e3, f0, f1, f2, f3, g0, g1, g2, g3, i0, i1, i2, i3, h4', hrec⟩ := p_record (N := N) (ah := S.1) (o := S.2.2 0) (r := S.2.2 1) (w := S.2.2 2) (a0 := S.2.2 3) (a1 := S.2.2 4) (a2 := S.2.2 5) (a3 := S.2.1 1) (b0 := S.2.2 6) (b1 := S.2.2 7) (b2 := S.2.2 8) (b3 := S.2.1 2) (c0 := S.2.2 9) (c1 := S.2.2 10) (c2 := S.2.2 11) (c3 := S.2.1 3) (d0 := S.2.2 12) (d1 := S.2.2 13) (d2 := S.2.2 14) (d3 := S.2.1 4) (wk := S.2.1 10) (ck := S.2.1 12) hN hn h4
  obtain ⟨o', r', w', y1, y2⟩ := p_remove (N := N) (o := S.2.2 0) (r := S.2.2 1) (w := S.2.2 2) (by omega) hn hk
  refine mk1 (by simp only [x_drop, f_X3_drop, hz, hs, e_has hn hk, i10, Option.bind_some, hrec, y1]; rfl) ?_
  refine ⟨⟨rfl, ⟨by omega, fun u hu => ?_⟩, fun h => absurd rfl h, fun h => absurd rfl h, h', h4', rfl⟩, ⟨rfl, rfl⟩, y2⟩
  show (o' u = 0 ∨ o' u = 1) ∧ (r' u = nI (rkN r' u) ∧ rkN r' u < 6) ∧ Sub (n - 1) (w' u)
  obtain ⟨b1, b2, b3⟩ := y2 u hu
  obtain ⟨v1, v2, v3⟩ := V.2 _ (sk_lt hk hu)
  exact ⟨by rw [b1]; exact v1, rkN_nI (j := rkN (S.2.2 1) (sk k u)) (by rw [b2]; exact v2.1) v2.2, by rw [b3]; exact dr_sub hk hn v3⟩
