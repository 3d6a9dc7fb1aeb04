/-! drop -/
def sk (p k : Nat) : Nat := if k < p then k else k + 1
def dr (p : Nat) (x : Int32) : Int32 := (x &&& (((1 : Int32) <<< (nI p &&& 31)) - 1)) ||| ((x >>> ((1 : Int32) &&& 31)) &&& ((((1 : Int32) <<< (nI p &&& 31)) - 1) ^^^ (-1)))
theorem dr_sub {n p : Nat} {x : Int32} (hp : p < n) (hn : n ≤ 12) (h : Sub n x) : Sub (n - 1) (dr p x) := by
  intro i h1 h2
  unfold dr
  rw [b_or, b_and, b_and, bt_not _ h2, bt_all p (by omega) i h2, show bt (x >>> ((1 : Int32) &&& 31)) i = _ from b_sshr 1 (by omega) x h2]
  have e1 : decide (i < p) = false := by simp; omega
  rw [e1]
  by_cases e : 1 + i < 32
  · rw [if_pos e, h (1 + i) (by omega) e]; simp
  · rw [if_neg e, h 31 (by omega) (by omega)]; simp
theorem p_remove {N n p : Nat} {o r w : Nat → Int32} (hN : 14 ≤ N) (hn : n ≤ 12) (hp : p < n) : ∃ o' r' w', f_X0_remove N (nI p) o r w (nI n) = some (o', r', w', nI (n - 1)) ∧ ∀ k, k < n - 1 → o' k = o (sk p k) ∧ r' k = r (sk p k) ∧ w' k = dr p (w (sk p k)) := by
  have hpred : nI n - 1 = nI (n - 1) := by
    obtain ⟨n, rfl⟩ : ∃ m, n = m + 1 := ⟨n - 1, by omega⟩
    exact nI_pred n
  obtain ⟨y, e1, e2⟩ := for_inv (fun m k (t : (Nat → Int32) × (Nat → Int32) × (Nat → Int32)) => f_X0_remove_L2 N (nI n) m k t.1 t.2.1 t.2.2) (n - 1)
    (fun k t => p ≤ k ∧ (∀ j, j < k → t.1 j = o (sk p j) ∧ t.2.1 j = r (sk p j) ∧ t.2.2 j = w (sk p j)) ∧ ∀ j, k ≤ j → t.1 j = o j ∧ t.2.1 j = r j ∧ t.2.2 j = w j)
    (fun t => ∀ j, j < n - 1 → t.1 j = o (sk p j) ∧ t.2.1 j = r (sk p j) ∧ t.2.2 j = w (sk p j))
    (fun m t ht => ⟨t, by
      simp only [f_X0_remove_L2, nI_1]
      rw [if_pos (nI_le (by omega) (by omega))], ht.2.1⟩)
    (fun m k t hk ht => Or.inr ⟨(upd t.1 k (t.1 (k + 1)), upd t.2.1 k (t.2.1 (k + 1)), upd t.2.2 k (t.2.2 (k + 1))), by
      have k1 : ¬ nI n ≤ nI (k + 1) := nI_ge (by omega) (by omega)
      simp only [f_X0_remove_L2, nI_1, if_neg k1, chk_t (gi_ok (show k + 1 < 12 by omega) (by omega)), chk_t (gi_ok (show k < 12 by omega) (by omega)), nI_clamp (show k < 2 ^ 31 by omega), nI_clamp (show k + 1 < 2 ^ 31 by omega)], by omega, fun j hj => by
      simp only [upd]
      by_cases e : j = k
      · subst e
        obtain ⟨z1, z2, z3⟩ := ht.2.2 (j + 1) (by omega)
        have hs : sk p j = j + 1 := by unfold sk; rw [if_neg (by omega)]
        rw [if_pos rfl, if_pos rfl, if_pos rfl, hs]
        exact ⟨z1, z2, z3⟩
      · rw [if_neg e, if_neg e, if_neg e]; exact ht.2.1 j (by omega), fun j hj => by
      simp only [upd]
      rw [if_neg (by omega), if_neg (by omega), if_neg (by omega)]
      exact ht.2.2 j (by omega)⟩)
    p N (o, r, w) (by omega) (by omega) ⟨Nat.le_refl _, fun j hj => by
      have hs : sk p j = j := by unfold sk; rw [if_pos hj]
      rw [hs]; exact ⟨rfl, rfl, rfl⟩, fun j _ => ⟨rfl, rfl, rfl⟩⟩
  obtain ⟨w', g1, g2⟩ := for_inv (fun m k (t : Nat → Int32) => f_X0_remove_L78 N ((1 <<< (nI p &&& 31)) - 1) (nI (n - 1)) m k t) (n - 1)
    (fun k t => (∀ j, j < k → t j = dr p (y.2.2 j)) ∧ ∀ j, k ≤ j → t j = y.2.2 j) (fun t => ∀ j, j < n - 1 → t j = dr p (y.2.2 j))
    (fun m t ht => ⟨t, by simp only [f_X0_remove_L78]; rw [if_pos (Int32.le_refl _)], ht.1⟩)
    (fun m k t hk ht => Or.inr ⟨upd t k (dr p (t k)), by
      have k1 : ¬ nI (n - 1) ≤ nI k := nI_ge (by omega) (by omega)
      simp only [f_X0_remove_L78, if_neg k1, chk_t (gi_ok (show k < 12 by omega) (by omega)), nI_clamp (show k < 2 ^ 31 by omega), nI_1]
      rfl, fun j hj => by
      simp only [upd]
      by_cases e : j = k
      · rw [if_pos e, ht.2 k (Nat.le_refl _), e]
      · rw [if_neg e]; exact ht.1 j (by omega), fun j hj => by
      simp only [upd]
      rw [if_neg (by omega)]
      exact ht.2 j (by omega)⟩)
    0 N y.2.2 (by omega) (by omega) ⟨fun j hj => by omega, fun j _ => rfl⟩
  refine ⟨y.1, y.2.1, w', ?_, fun k hk => ⟨(e2 k hk).1, (e2 k hk).2.1, by rw [g2 k hk, (e2 k hk).2.2]⟩⟩
  have e1 : f_X0_remove_L2 N (nI n) N (nI p) o r w = some y := e1
  have g1 : f_X0_remove_L78 N ((1 <<< (nI p &&& 31)) - 1) (nI (n - 1)) N 0 y.2.2 = some w' := g1
  simp only [f_X0_remove, e1, Option.bind_some, hpred, g1]
theorem p_mdrop {N n p : Nat} {o r w s : Nat → Int32} (hN : 14 ≤ N) (hn : n ≤ 12) (hp : p < n) (hF : FE n o r w s) :
    ∃ s', f_X4_drop_L32 N (nI p) ((1 <<< (nI p &&& 31)) - 1) N 0 (upd s 0 (nI (n - 1))) = some s' ∧ s' 0 = nI (n - 1) ∧ ∀ k, k < n - 1 → s' (1 + k) = o (sk p k) ∧ s' (13 + k) = r (sk p k) ∧ s' (25 + k) = dr p (w (sk p k)) := by
  obtain ⟨s', e1, e2, e3⟩ := for_inv (fun m k (t : Nat → Int32) => f_X4_drop_L32 N (nI p) ((1 <<< (nI p &&& 31)) - 1) m k t) (n - 1)
    (fun k t => t 0 = nI (n - 1) ∧ (∀ j, j < k → t (1 + j) = o (sk p j) ∧ t (13 + j) = r (sk p j) ∧ t (25 + j) = dr p (w (sk p j))) ∧ ∀ j, k ≤ j → j < n → t (1 + j) = o j ∧ t (13 + j) = r j ∧ t (25 + j) = w j)
    (fun t => t 0 = nI (n - 1) ∧ ∀ j, j < n - 1 → t (1 + j) = o (sk p j) ∧ t (13 + j) = r (sk p j) ∧ t (25 + j) = dr p (w (sk p j)))
    (fun m t ht => ⟨t, by simp only [f_X4_drop_L32, chk_t g037, c0, ht.1]; rw [if_pos (Int32.le_refl _)], ht.1, ht.2.1⟩)
    (fun m k t hk ht => Or.inr (by
      obtain ⟨t0, t1, t2⟩ := ht
      have k1 : ¬ nI (n - 1) ≤ nI k := nI_ge (by omega) (by omega)
      have hsk : sk p k < n ∧ k ≤ sk p k := by unfold sk; split <;> omega
      have hq : (if nI p ≤ nI k then (some (nI (k + 1))) else some (nI k)) = some (nI (sk p k)) := by
        unfold sk
        by_cases e : k < p
        · rw [if_pos e, if_neg (nI_ge e (by omega))]
        · rw [if_neg e, if_pos (nI_le (by omega) (by omega))]
      obtain ⟨z1, z2, z3⟩ := t2 (sk p k) hsk.2 hsk.1
      refine ⟨upd (upd (upd t (1 + k) (t (1 + sk p k))) (13 + k) (upd t (1 + k) (t (1 + sk p k)) (13 + sk p k))) (25 + k) (dr p (t (25 + sk p k))), ?_, ?_, fun j hj => ?_, fun j hj hjn => ?_⟩
      · simp only [f_X4_drop_L32, chk_t g037, c0, t0, if_neg k1, nI_1, hq, Option.bind_some, m1, m13, m25, chk_t (gi_ok (show 1 + sk p k < 37 by omega) (by omega)), chk_t (gi_ok (show 13 + sk p k < 37 by omega) (by omega)), chk_t (gi_ok (show 25 + sk p k < 37 by omega) (by omega)), chk_t (gi_ok (show 1 + k < 37 by omega) (by omega)), chk_t (gi_ok (show 13 + k < 37 by omega) (by omega)), chk_t (gi_ok (show 25 + k < 37 by omega) (by omega)), nI_clamp (show 1 + k < 2 ^ 31 by omega), nI_clamp (show 13 + k < 2 ^ 31 by omega), nI_clamp (show 25 + k < 2 ^ 31 by omega), nI_clamp (show 1 + sk p k < 2 ^ 31 by omega), nI_clamp (show 13 + sk p k < 2 ^ 31 by omega), nI_clamp (show 25 + sk p k < 2 ^ 31 by omega)]
        rfl
      · rw [upd_n (by omega), upd_n (by omega), upd_n (by omega)]; exact t0
      · by_cases e : j = k
        · subst e
          refine ⟨?_, ?_, ?_⟩
          · rw [upd_n (by omega), upd_n (by omega), upd_s]; exact z1
          · rw [upd_n (by omega), upd_s, upd_n (by omega)]; exact z2
          · rw [upd_s, z3]
        · obtain ⟨a1, a2, a3⟩ := t1 j (by omega)
          refine ⟨?_, ?_, ?_⟩
          · rw [upd_n (by omega), upd_n (by omega), upd_n (by omega)]; exact a1
          · rw [upd_n (by omega), upd_n (by omega), upd_n (by omega)]; exact a2
          · rw [upd_n (by omega), upd_n (by omega), upd_n (by omega)]; exact a3
      · obtain ⟨a1, a2, a3⟩ := t2 j (by omega) hjn
        refine ⟨?_, ?_, ?_⟩
        · rw [upd_n (by omega), upd_n (by omega), upd_n (by omega)]; exact a1
        · rw [upd_n (by omega), upd_n (by omega), upd_n (by omega)]; exact a2
        · rw [upd_n (by omega), upd_n (by omega), upd_n (by omega)]; exact a3))
    0 N (upd s 0 (nI (n - 1))) (by omega) (by omega) ⟨upd_s, fun j hj => by omega, fun j _ hj => by
      obtain ⟨a1, a2, a3⟩ := hF.2 j hj
      rw [upd_n (by omega), upd_n (by omega), upd_n (by omega)]
      exact ⟨a1, a2, a3⟩⟩
  exact ⟨s', e1, e2, e3⟩
theorem step_drop {N : Nat} (hN : 13000000 ≤ N) (x1 : Int32) {S : XS} {M : MS} (h : Rel S M) : ∃ (r : Int32) (S2 : XS) (M2 : MS), x_drop N x1 S = some (r, S2) ∧ m_drop N x1 M = some (r, M2) ∧ Rel S2 M2 := by
  obtain ⟨⟨n, hz, V, hF, hw, hc⟩, hRH, hRK, hRT⟩ := h
  have hn := V.1
  rcases c_place (N := N) x1 hn hF.1 with ⟨k, hk, rfl, a1, a2⟩ | ⟨a1, a2⟩
  · obtain ⟨ah', st', e0, e1, e2, e3, f0, f1, f2, f3, g0, g1, g2, g3, i0, i1, i2, i3, ps', past', hrec, hch, hR'⟩ := p_record (ah := S.1) (wk := S.2.1 10) (ck := S.2.1 12) hN V hF hRH
    obtain ⟨o', r', w', y1, y2⟩ := p_remove (N := N) (o := S.2.2 0) (r := S.2.2 1) (w := S.2.2 2) (by omega) hn hk
    obtain ⟨s', z1, z2, z3⟩ := p_mdrop (N := N) (by omega) hn hk hF
    have hpred : nI n - 1 = nI (n - 1) := by
      obtain ⟨n, rfl⟩ : ∃ m, n = m + 1 := ⟨n - 1, by omega⟩
      exact nI_pred n
    refine mk_step (r := nI (n - 1)) (by simp only [x_drop, f_X3_drop, hz, a1, i10, Option.bind_some, hrec, y1]; rfl) (by simp only [m_drop, f_X4_drop, a2, i10, Option.bind_some, hch, chk_t g037, c0, hF.1, hpred, z1, z2]; rfl) ?_
    have hsk : ∀ u, u < n - 1 → sk k u < n := fun u hu => by unfold sk; split <;> omega
    refine ⟨⟨n - 1, rfl, ⟨by omega, fun u hu => ?_⟩, ⟨z2, fun u hu => ?_⟩, fun h => absurd rfl h, fun h => absurd rfl h⟩, hR', hRK, hRT⟩
    · show (o' u = 0 ∨ o' u = 1) ∧ (r' u = nI (rkN r' u) ∧ rkN r' u < 6) ∧ Sub (n - 1) (w' u)
      obtain ⟨b1, b2, b3⟩ := y2 u hu
      obtain ⟨v1, v2, v3⟩ := V.2 _ (hsk u hu)
      refine ⟨by rw [b1]; exact v1, rkN_nI (j := rkN (S.2.2 1) (sk k u)) (by rw [b2]; exact v2.1) v2.2, by rw [b3]; exact dr_sub hk hn v3⟩
    · show s' (1 + u) = o' u ∧ s' (13 + u) = r' u ∧ s' (25 + u) = w' u
      obtain ⟨b1, b2, b3⟩ := y2 u hu
      obtain ⟨c1, c2, c3⟩ := z3 u hu
      exact ⟨by rw [b1, c1], by rw [b2, c2], by rw [b3, c3]⟩
  · refine mk_step (r := -1) (by simp only [x_drop, f_X3_drop, hz, a1, i00, Option.bind_some]; rfl) (by simp only [m_drop, f_X4_drop, a2, i00, Option.bind_some]; rfl) ?_
    exact ⟨⟨n, rfl, V, hF, hw, hc⟩, hRH, hRK, hRT⟩
