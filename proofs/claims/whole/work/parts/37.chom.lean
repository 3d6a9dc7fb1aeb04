/-! the reference lays its choices -/
theorem p_lowest {N : Nat} {x : Int32} (hN : 13 ≤ N) : f_X4_lowest N x = some (if low (bt x) 12 0 = 12 then -4 else nI (low (bt x) 12 0)) := by
  have key : ∀ j k m, k + j = 12 → j < m → f_X4_lowest_L2 N x m (nI k) = some (nI (low (bt x) j k)) := by
    intro j
    induction j with
    | zero =>
      intro k m hk hm
      obtain ⟨m, rfl⟩ : ∃ m', m = m' + 1 := ⟨m - 1, by omega⟩
      obtain rfl : k = 12 := by omega
      rw [f_X4_lowest_L2, if_pos (by decide)]
      rfl
    | succ j ih =>
      intro k m hk hm
      obtain ⟨m, rfl⟩ : ∃ m', m = m' + 1 := ⟨m - 1, by omega⟩
      have k1 : ¬ (12 : Int32) ≤ nI k := nI_ge (b := 12) (by omega) (by omega)
      rw [f_X4_lowest_L2, if_neg k1, bt_get (by omega), nI_1]
      by_cases e : bt x k = true
      · rw [if_pos e, if_neg (by decide)]
        show some (nI k) = some (nI (if bt x k = true then k else _))
        rw [if_pos e]
      · rw [if_neg e, if_pos rfl, ih (k + 1) m (by omega) (by omega)]
        show _ = some (nI (if bt x k = true then k else low (bt x) j (k + 1)))
        rw [if_neg e]
  have h0 : f_X4_lowest_L2 N x N 0 = some (nI (low (bt x) 12 0)) := key 12 0 N (by omega) (by omega)
  have hle : low (bt x) 12 0 ≤ 12 := by rcases low_spec (bt x) 12 0 with ⟨-, h, -⟩ | ⟨h, -⟩ <;> omega
  simp only [f_X4_lowest, h0, Option.bind_some]
  by_cases e : low (bt x) 12 0 = 12
  · rw [if_pos e, if_pos (by rw [e]; rfl)]
  · have e' : ¬ nI (low (bt x) 12 0) = 12 := nI_ne (b := 12) (by omega) (by omega) e
    rw [if_neg e, if_neg e']
theorem low_0 {x : Int32} (h : x = 0) : low (bt x) 12 0 = 12 := by
  rcases low_spec (bt x) 12 0 with ⟨h1, -, -⟩ | ⟨h1, -⟩
  · rw [h, b_0] at h1; exact absurd h1 (by decide)
  · exact h1
def c1st (x : Int32) : Int32 := if x = 0 then -4 else nI (low (bt x) 12 0)
theorem p_lowest' {N n : Nat} {x : Int32} (hN : 13 ≤ N) (hn : n ≤ 12) (hs : Sub n x) : f_X4_lowest N x = some (c1st x) := by
  rw [p_lowest hN]
  unfold c1st
  by_cases e : x = 0
  · rw [if_pos (low_0 e), if_pos e]
  · have := (low_bt hn hs e).2
    rw [if_neg (by omega), if_neg e]
theorem p_ch7 {N n : Nat} {o r w s ch ws : Nat → Int32} (hN : 13 ≤ N) (V : VF n o r w) (hF : FE n o r w s) : ∃ ch' ws', f_X4_chooses_L7 N s N 0 ch ws = some (ch', ws') ∧ ∀ v, v < n → ws' v = w v ∧ ch' v = c1st (w v) := by
  have hn := V.1
  obtain ⟨y, e1, e2⟩ := for_inv (fun m x (st : (Nat → Int32) × (Nat → Int32)) => f_X4_chooses_L7 N s m x st.1 st.2) n
    (fun k st => ∀ v, v < k → st.2 v = w v ∧ st.1 v = c1st (w v)) (fun st => ∀ v, v < n → st.2 v = w v ∧ st.1 v = c1st (w v))
    (fun m st h => ⟨st, by simp only [f_X4_chooses_L7, chk_t g037, c0, hF.1]; rw [if_pos (Int32.le_refl _)], h⟩)
    (fun m k st hk h => Or.inr ⟨(upd st.1 k (c1st (w k)), upd st.2 k (w k)), by
      obtain ⟨k1, k2, k3, k4⟩ := idx hk hn
      obtain ⟨-, -, z3, -, -, s3⟩ := idm hF hk hn
      simp only [f_X4_chooses_L7, chk_t g037, c0, hF.1, if_neg k1, chk_t k2, k3, m25, chk_t z3, s3, upd_s, p_lowest' hN hn (V.2 k hk).2.2, Option.bind_some, k4], fun v hv => by
      by_cases e : v = k
      · subst e; exact ⟨upd_s, upd_s⟩
      · show upd st.2 k (w k) v = w v ∧ upd st.1 k (c1st (w k)) v = c1st (w v)
        rw [upd_n e, upd_n e]; exact h v (by omega)⟩)
    0 N (ch, ws) (by omega) (by omega) (fun v hv => by omega)
  exact ⟨y.1, y.2, e1, e2⟩
theorem FE_set {n k : Nat} {o r t s : Nat → Int32} {x : Int32} (hn : n ≤ 12) (hk : k < n) (h0 : s 0 = nI n) (h1 : ∀ v, v < n → s (1 + v) = o v ∧ s (13 + v) = r v ∧ (v ≠ k → s (25 + v) = t v)) : FE n o r (upd t k x) (upd s (25 + k) x) := by
  refine ⟨by rw [upd_n (by omega)]; exact h0, fun v hv => ?_⟩
  obtain ⟨a, b, c⟩ := h1 v hv
  refine ⟨by rw [upd_n (by omega)]; exact a, by rw [upd_n (by omega)]; exact b, ?_⟩
  by_cases e : v = k
  · rw [e, upd_s, upd_s]
  · rw [upd_n (by omega), upd_n e]; exact c e
theorem p_ch99 {N n k u : Nat} {o r w t s ws meas ch : Nat → Int32} {R a1 a3 a5 : Int32} (hN : 13000000 ≤ N) (V : VF n o r w) (hk : k < n) (hu : u < n) (hq : bt (w k) u = true) (ht : ∀ v, v < n → Sub n (t v)) (hs : FE n o r t s) (hws : ws k = w k) (hW : WinS n o r (upd t k (bit u)) R) (hl : ∀ u', u' < u → bt (w k) u' = true → ¬ WinS n o r (upd t k (bit u')) R) :
    ∃ s' g b1 b3 b5 ch', f_X4_chooses_L99 N R (nI k) ws N 0 0 s meas a1 a3 a5 ch = some (s', g, b1, b3, b5, ch') ∧ FE n o r (upd t k (bit u)) s' ∧ (∀ j, j ≠ k → ch' j = ch j) ∧ ch' k = nI u := by
  have hn := V.1
  obtain ⟨k1, k2, k3, k4⟩ := idx hk hn
  have Vt : ∀ j, j < n → VF n o r (upd t k (bit j)) := fun j hj => ⟨hn, fun v hv => ⟨(V.2 v hv).1, (V.2 v hv).2.1, by
      by_cases ev : v = k
      · rw [ev, upd_s]; exact bit_sub hn hj
      · rw [upd_n ev]; exact ht v hv⟩⟩
  have hzz : gi (nI (25 + k)) 37 = true := gi_ok (by omega) (by omega)
  obtain ⟨y, e1, e2⟩ := for_inv (fun m x (st : Int32 × (Nat → Int32) × (Nat → Int32) × Int32 × Int32 × Int32 × (Nat → Int32)) => f_X4_chooses_L99 N R (nI k) ws m st.1 x st.2.1 st.2.2.1 st.2.2.2.1 st.2.2.2.2.1 st.2.2.2.2.2.1 st.2.2.2.2.2.2) n
    (fun j st => (∀ i, i ≠ k → st.2.2.2.2.2.2 i = ch i) ∧ ((st.1 = 0 ∧ j ≤ u ∧ st.2.1 0 = nI n ∧ ∀ v, v < n → st.2.1 (1 + v) = o v ∧ st.2.1 (13 + v) = r v ∧ (v ≠ k → st.2.1 (25 + v) = t v)) ∨ (st.1 = 1 ∧ FE n o r (upd t k (bit u)) st.2.1 ∧ st.2.2.2.2.2.2 k = nI u)))
    (fun b => FE n o r (upd t k (bit u)) b.1 ∧ (∀ j, j ≠ k → b.2.2.2.2.2 j = ch j) ∧ b.2.2.2.2.2 k = nI u)
    (fun m st h => by
      obtain ⟨h0, ⟨-, h2, -⟩ | ⟨h1, h2, h3⟩⟩ := h
      · exact absurd h2 (by omega)
      · exact ⟨st.2, by simp only [f_X4_chooses_L99, chk_t g037, c0, h2.1]; rw [if_pos (Int32.le_refl _)], h2, h0, h3⟩)
    (fun m j st hj h => by
      obtain ⟨fl, sj, mj, q1, q3, q5, cj⟩ := st
      obtain ⟨j1, j2, j3, j4⟩ := idx hj hn
      obtain ⟨h0, ⟨h1, h2, h3, h4⟩ | ⟨h1, h2, h3⟩⟩ := h
      · have h1 : fl = 0 := h1
        subst h1
        have h0 : ∀ i, i ≠ k → cj i = ch i := h0
        have h3 : sj 0 = nI n := h3
        have h4 : ∀ v, v < n → sj (1 + v) = o v ∧ sj (13 + v) = r v ∧ (v ≠ k → sj (25 + v) = t v) := h4
        by_cases eb : bt (w k) j = true
        · have hF' := FE_set (x := bit j) hn hk h3 h4
          obtain ⟨R', b1, b2⟩ := p_winsOf0 (N := N) (by omega) (Vt j hj)
          obtain ⟨g, x1, x3, x5, hwon⟩ := p_won (meas := mj) (a1 := q1) (a3 := q3) (a5 := q5) hN (Vt j hj) hF' b2
          have hwon : f_X4_won N (upd sj (25 + k) (1 <<< (nI j &&& 31))) mj q1 q3 q5 = some (R', g, x1, x3, x5) := hwon
          by_cases er : R' = R
          · subst er
            have hju : j = u := by
              rcases Nat.lt_or_ge j u with hlt | hge
              · exact absurd b2 (hl j hlt eb)
              · omega
            subst hju
            refine Or.inr ⟨(1, upd sj (25 + k) (bit j), g, x1, x3, x5, upd cj k (nI j)), ?_, fun i hi => (upd_n hi).trans (h0 i hi), Or.inr ⟨rfl, hF', upd_s⟩⟩
            simp only [f_X4_chooses_L99, chk_t g037, c0, h3, if_neg j1, if_true, chk_t k2, k3, hws, bt_get (show j < 32 by omega), eb, m25, chk_t hzz, nI_clamp (show 25 + k < 2 ^ 31 by omega), hwon, Option.bind_some, j4]
            rfl
          · refine Or.inr ⟨(0, upd sj (25 + k) (bit j), g, x1, x3, x5, upd cj k (nI j)), ?_, fun i hi => (upd_n hi).trans (h0 i hi), Or.inl ⟨rfl, ?_, (upd_n (show 0 ≠ 25 + k by omega)).trans h3, fun v hv => ?_⟩⟩
            · simp only [f_X4_chooses_L99, chk_t g037, c0, h3, if_neg j1, if_true, chk_t k2, k3, hws, bt_get (show j < 32 by omega), eb, m25, chk_t hzz, nI_clamp (show 25 + k < 2 ^ 31 by omega), hwon, Option.bind_some, j4, if_neg er]
              rfl
            · have : j ≠ u := fun e => by
                subst e
                exact er (win_uniq (Vt j hj) b2 hW)
              omega
            · obtain ⟨z1, z2, z3⟩ := h4 v hv
              show upd sj (25 + k) (bit j) (1 + v) = o v ∧ upd sj (25 + k) (bit j) (13 + v) = r v ∧ (v ≠ k → upd sj (25 + k) (bit j) (25 + v) = t v)
              refine ⟨by rw [upd_n (by omega)]; exact z1, by rw [upd_n (by omega)]; exact z2, fun hne => by rw [upd_n (by omega)]; exact z3 hne⟩
        · refine Or.inr ⟨(0, sj, mj, q1, q3, q5, cj), ?_, h0, Or.inl ⟨rfl, ?_, h3, h4⟩⟩
          · simp only [f_X4_chooses_L99, chk_t g037, c0, h3, if_neg j1, if_true, chk_t k2, k3, hws, bt_get (show j < 32 by omega), if_neg eb, if_neg (show ¬ (0 : Int32) = 1 by decide), Option.bind_some, j4]
          · have : j ≠ u := fun e => eb (by rw [e]; exact hq)
            omega
      · have h1 : fl = 1 := h1
        subst h1
        have h2 : FE n o r (upd t k (bit u)) sj := h2
        exact Or.inl ⟨(sj, mj, q1, q3, q5, cj), by simp only [f_X4_chooses_L99, chk_t g037, c0, h2.1, if_neg j1, if_neg (show ¬ (1 : Int32) = 0 by decide)], h2, h0, h3⟩)
    0 N (0, s, meas, a1, a3, a5, ch) (by omega) (by omega) ⟨fun _ _ => rfl, Or.inl ⟨rfl, by omega, hs.1, fun v hv => ⟨(hs.2 v hv).1, (hs.2 v hv).2.1, fun _ => (hs.2 v hv).2.2⟩⟩⟩
  obtain ⟨s', g, b1, b3, b5, ch'⟩ := y
  exact ⟨s', g, b1, b3, b5, ch', e1, e2⟩
theorem p_ch178 {N n : Nat} {o r t w ws s : Nat → Int32} (hN : 13 ≤ N) (hn : n ≤ 12) (hs : FE n o r t s) (hws : ∀ v, v < n → ws v = w v) : ∃ s', f_X4_chooses_L178 N ws N 0 s = some s' ∧ FE n o r w s' := by
  obtain ⟨y, e1, e2⟩ := for_inv (fun m x st => f_X4_chooses_L178 N ws m x st) n
    (fun k (st : Nat → Int32) => st 0 = nI n ∧ ∀ v, v < n → st (1 + v) = o v ∧ st (13 + v) = r v ∧ (v < k → st (25 + v) = w v)) (fun st => FE n o r w st)
    (fun m st h => ⟨st, by simp only [f_X4_chooses_L178, chk_t g037, c0, h.1]; rw [if_pos (Int32.le_refl _)], h.1, fun v hv => ⟨(h.2 v hv).1, (h.2 v hv).2.1, (h.2 v hv).2.2 hv⟩⟩)
    (fun m k st hk h => Or.inr ⟨upd st (25 + k) (w k), by
      obtain ⟨k1, k2, k3, k4⟩ := idx hk hn
      simp only [f_X4_chooses_L178, chk_t g037, c0, h.1, if_neg k1, chk_t k2, k3, m25, chk_t (gi_ok (show 25 + k < 37 by omega) (by omega)), nI_clamp (show 25 + k < 2 ^ 31 by omega), hws k hk, k4], (upd_n (by omega)).trans h.1, fun v hv => by
      obtain ⟨a, b, c⟩ := h.2 v hv
      refine ⟨(upd_n (by omega)).trans a, (upd_n (by omega)).trans b, fun hvk => ?_⟩
      by_cases e : v = k
      · rw [e, upd_s]
      · rw [upd_n (by omega)]; exact c (by omega)⟩)
    0 N s (by omega) (by omega) ⟨hs.1, fun v hv => ⟨(hs.2 v hv).1, (hs.2 v hv).2.1, fun h => by omega⟩⟩
  exact ⟨y, e1, e2⟩
theorem CI_congr {n k : Nat} {o r w tw tw' ch : Nat → Int32} {R : Int32} (h : CI n o r w R k tw ch) (ht : ∀ v, v < n → tw' v = tw v) : CI n o r w R k tw' ch := by
  obtain ⟨tws, h1, h2, h3, h4, h5⟩ := h
  exact ⟨tws, h1, h2, h3, h4, fun v hv => (ht v hv).trans (h5 v hv)⟩
theorem FE_congr {n : Nat} {o r t t' s : Nat → Int32} (h : FE n o r t s) (ht : ∀ v, v < n → t' v = t v) : FE n o r t' s :=
  ⟨h.1, fun v hv => ⟨(h.2 v hv).1, (h.2 v hv).2.1, (h.2 v hv).2.2.trans (ht v hv).symm⟩⟩
theorem p_chooses {N n : Nat} {o r w s meas ch ws : Nat → Int32} {R a1 a3 a5 : Int32} (hN : 13000000 ≤ N) (V : VF n o r w) (hF : FE n o r w s) (hR : WinS n o r w R) :
    ∃ s' g b1 b3 b5 ch' ws', f_X4_chooses N s meas a1 a3 a5 ch ws = some (R, s', g, b1, b3, b5, ch', ws') ∧ FE n o r w s' ∧ ChoS n o r w ch' ∧ ∀ v, v < n → ws' v = w v := by
  have hn := V.1
  obtain ⟨g0, z1, z3, z5, hwon⟩ := p_won (meas := meas) (a1 := a1) (a3 := a3) (a5 := a5) hN V hF hR
  obtain ⟨ch1, ws1, h7, h7'⟩ := p_ch7 (N := N) (ch := ch) (ws := ws) (by omega) V hF
  obtain ⟨y, e1, e2⟩ := for_inv (fun m x (st : (Nat → Int32) × (Nat → Int32) × Int32 × Int32 × Int32 × (Nat → Int32)) => f_X4_chooses_L55 N R ws1 m x st.1 st.2.1 st.2.2.1 st.2.2.2.1 st.2.2.2.2.1 st.2.2.2.2.2) n
    (fun k st => ∃ tw, CI n o r w R k tw st.2.2.2.2.2 ∧ FE n o r tw st.1 ∧ ∀ v, v < n → k ≤ v → st.2.2.2.2.2 v = c1st (w v))
    (fun st => ∃ tw, CI n o r w R n tw st.2.2.2.2.2 ∧ FE n o r tw st.1)
    (fun m st h => by
      obtain ⟨tw, h1, h2, -⟩ := h
      exact ⟨st, by simp only [f_X4_chooses_L55, chk_t g037, c0, h2.1]; rw [if_pos (Int32.le_refl _)], tw, h1, h2⟩)
    (fun m k st hk h => by
      obtain ⟨sj, mj, q1, q3, q5, cj⟩ := st
      obtain ⟨tw, h1, h2, h3⟩ := h
      have h1 : CI n o r w R k tw cj := h1
      have h2 : FE n o r tw sj := h2
      have h3 : ∀ v, v < n → k ≤ v → cj v = c1st (w v) := h3
      obtain ⟨k1, k2, k3, k4⟩ := idx hk hn
      obtain ⟨y1, -, -, s1, -, -⟩ := idm h2 hk hn
      have hwk := (h7' k hk).1
      have stay : ∀ m', f_X4_chooses_L99 N R (nI k) ws1 (m' + 1) 1 0 sj mj q1 q3 q5 cj = some (sj, mj, q1, q3, q5, cj) := fun m' => by
        simp only [f_X4_chooses_L99, chk_t g037, c0, h2.1, if_neg (show ¬ (1 : Int32) = 0 by decide)]
        split <;> rfl
      have stay : f_X4_chooses_L99 N R (nI k) ws1 N 1 0 sj mj q1 q3 q5 cj = some (sj, mj, q1, q3, q5, cj) := by
        obtain ⟨N', rfl⟩ : ∃ N', N = N' + 1 := ⟨N - 1, by omega⟩
        exact stay N'
      have hwin : f_X4_winner N R (nI k) = some (1 - if bt R k = true then 1 else 0) := by
        simp only [f_X4_winner, bt_get (show k < 32 by omega)]
      have hw1 : (1 - if bt R k = true then (1 : Int32) else 0) = (if bt R k = true then 0 else 1) := by split <;> rfl
      by_cases eo : bt R k = decide (owN o k = 0)
      · by_cases e0 : w k = 0
        · refine Or.inr ⟨(sj, mj, q1, q3, q5, cj), ?_, tw, CI_keep h1 (fun j hj => rfl) (Or.inl ⟨e0, (h3 k hk (Nat.le_refl _)).trans (if_pos e0)⟩), h2, fun v hv hkv => h3 v hv (by omega)⟩
          simp only [f_X4_chooses_L55, chk_t g037, c0, h2.1, if_neg k1, m1, chk_t y1, s1, hwin, hw1, Option.bind_some, if_pos ((owN_dec V hk).mpr eo), chk_t k2, k3, hwk, if_pos e0, stay, k4]
        · obtain ⟨t, u, b1, b2, b3, b4, b5, b6, b7⟩ := CI_set hn hk h1 e0 eo
          obtain ⟨s', g, x1, x3, x5, ch', c1, c2, c3, c4⟩ := p_ch99 (N := N) (meas := mj) (a1 := q1) (a3 := q3) (a5 := q5) (ch := cj) (ws := ws1) hN V hk b1 b2 b3 (FE_congr h2 (fun v hv => (b4 v hv).symm)) hwk b5 b6
          refine Or.inr ⟨(s', g, x1, x3, x5, ch'), ?_, upd t k (bit u), b7 _ ch' (fun _ _ => rfl) (fun j hj => c3 j (by omega)) c4, c2, fun v hv hkv => (c3 v (by omega)).trans (h3 v hv (by omega))⟩
          simp only [f_X4_chooses_L55, chk_t g037, c0, h2.1, if_neg k1, m1, chk_t y1, s1, hwin, hw1, Option.bind_some, if_pos ((owN_dec V hk).mpr eo), chk_t k2, k3, hwk, if_neg e0, c1, k4]
      · refine Or.inr ⟨(sj, mj, q1, q3, q5, cj), ?_, tw, CI_keep h1 (fun j hj => rfl) ?_, h2, fun v hv hkv => h3 v hv (by omega)⟩
        · simp only [f_X4_chooses_L55, chk_t g037, c0, h2.1, if_neg k1, m1, chk_t y1, s1, hwin, hw1, Option.bind_some, if_neg (fun h => eo ((owN_dec V hk).mp h)), stay, k4]
        · have hck := h3 k hk (Nat.le_refl _)
          unfold c1st at hck
          by_cases e0 : w k = 0
          · rw [if_pos e0] at hck; exact Or.inl ⟨e0, hck⟩
          · rw [if_neg e0] at hck; exact Or.inr ⟨e0, eo, hck⟩)
    0 N (s, g0, z1, z3, z5, ch1) (by omega) (by omega) ⟨w, CI_0 V hR (fun _ _ => rfl), hF, fun v hv _ => (h7' v hv).2⟩
  obtain ⟨s2, g2, d1, d3, d5, ch2⟩ := y
  obtain ⟨tw, ⟨tws, t1, t2, -⟩, t3⟩ := e2
  obtain ⟨s3, f1, f2⟩ := p_ch178 (N := N) (w := w) (by omega) hn t3 (fun v hv => (h7' v hv).1)
  have e1 : f_X4_chooses_L55 N R ws1 N 0 s g0 z1 z3 z5 ch1 = some (s2, g2, d1, d3, d5, ch2) := e1
  have f1 : f_X4_chooses_L178 N ws1 N 0 s2 = some s3 := f1
  exact ⟨s3, g2, d1, d3, d5, ch2, ws1, by simp only [f_X4_chooses, hwon, h7, e1, f1, Option.bind_some], f2, ⟨R, tws, hR, t1⟩, fun v hv => (h7' v hv).1⟩
