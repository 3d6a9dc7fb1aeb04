/-! the law looks at the choices -/
theorem CS_tail {n : Nat} {o r w ch : Nat → Int32} {R : Int32} {tws : Nat → Nat → Int32} (V : VF n o r w) (h : CS n o r w R tws ch n) : ∀ j, j ≤ n → ∀ v, v < n → (j ≤ v → tws j v = w v) ∧ Sub n (tws j v) := by
  obtain ⟨h0, h1⟩ := h
  intro j
  induction j with
  | zero => exact fun _ v hv => ⟨fun _ => h0 v hv, by rw [h0 v hv]; exact (V.2 v hv).2.2⟩
  | succ j ih =>
    intro hj v hv
    obtain ⟨i1, i2⟩ := ih (by omega) v hv
    obtain ⟨a1, a2, a3⟩ := h1 j (by omega)
    have same : tws (j + 1) v = tws j v → (j + 1 ≤ v → tws (j + 1) v = w v) ∧ Sub n (tws (j + 1) v) := fun e => ⟨fun hv => by rw [e]; exact i1 (by omega), by rw [e]; exact i2⟩
    by_cases e : w j = 0
    · exact same ((a1 e).2 v hv)
    · by_cases e2 : bt R j = decide (owN o j = 0)
      · obtain ⟨u, u1, -, -, -, -, u6⟩ := a2 e e2
        by_cases ev : v = j
        · refine ⟨fun hv => by omega, ?_⟩
          rw [u6 v hv, ev, upd_s]; exact bit_sub V.1 u1
        · exact same (by rw [u6 v hv, upd_n ev])
      · exact same ((a3 e e2).2 v hv)
theorem VF_t {n k i : Nat} {o r w t : Nat → Int32} (V : VF n o r w) (ht : ∀ v, v < n → Sub n (t v)) (hi : i < n) : VF n o r (upd t k (bit i)) := ⟨V.1, fun v hv => ⟨(V.2 v hv).1, (V.2 v hv).2.1, by
  by_cases e : v = k
  · rw [e, upd_s]; exact bit_sub V.1 hi
  · rw [upd_n e]; exact ht v hv⟩⟩
theorem p_l89 {N k : Nat} {e : Nat → Int32} (hN : 13 ≤ N) (hk : k < 12) (hs : Sub 12 (e k)) (h0 : ¬ e k = 0) : f_L_areChoices_L89 N (nI k) e N 0 = some (nI (low (bt (e k)) 12 0)) := by
  have key : ∀ j i m, i + j = 12 → j < m → (∃ t, i ≤ t ∧ t < 12 ∧ bt (e k) t = true) → f_L_areChoices_L89 N (nI k) e m (nI i) = some (nI (low (bt (e k)) j i)) := by
    intro j
    induction j with
    | zero => intro i m h1 _ ⟨t, t1, t2, _⟩; omega
    | succ j ih =>
      intro i m h1 hm ⟨t, t1, t2, t3⟩
      obtain ⟨m, rfl⟩ : ∃ m', m = m' + 1 := ⟨m - 1, by omega⟩
      rw [f_L_areChoices_L89, chk_t (gi_ok hk (by omega)), nI_clamp (show k < 2 ^ 31 by omega), bt_get (show i < 32 by omega), nI_1]
      show _ = some (nI (if bt (e k) i = true then i else low (bt (e k)) j (i + 1)))
      by_cases hb : bt (e k) i = true
      · rw [if_pos hb, if_pos hb, if_neg (show ¬ (1 : Int32) = 0 by decide)]
      · rw [if_neg hb, if_neg hb, if_pos rfl]
        refine ih (i + 1) m (by omega) (by omega) ⟨t, ?_, t2, t3⟩
        rcases Nat.lt_or_ge i t with h | h
        · exact h
        · obtain rfl : i = t := by omega
          exact absurd t3 hb
  obtain ⟨t, ht, hb⟩ := bt_ne h0
  exact key 12 0 N (by omega) (by omega) ⟨t, Nat.zero_le _, hs.lt hb, hb⟩
theorem p_l183 {N n k u : Nat} {R : Int32} {g w r e new : Nat → Int32} (hN : 16 ≤ N) (hn : n ≤ 8) (hg : g 0 = nI n) (hk : k < n) (hu : u < n) (hV : ∀ i, i < n → VF n w r (upd new k (bit i)))
    (hno : ∀ i, i < u → bt (e k) i = true → ¬ WinS n w r (upd new k (bit i)) R) : ∀ j i m new1 nc, i + j = u → j < m → (∀ x, upd new1 k x = upd new k x) → nc + j ≤ 100 →
    ∃ new2 nc2, f_L_areChoices_L183 N R (nI k) (nI u) 1 g w r e m 1 (nI i) new1 nc = some (1, new2, nc2) ∧ nc2 ≤ nc + j ∧ ∀ x, upd new2 k x = upd new k x := by
  have hgk := gi_ok (show k < 12 by omega) (by omega)
  have hck := nI_clamp (show k < 2 ^ 31 by omega)
  intro j
  induction j with
  | zero =>
    intro i m new1 nc h1 hm h2 h3
    obtain ⟨m, rfl⟩ : ∃ m', m = m' + 1 := ⟨m - 1, by omega⟩
    obtain rfl : i = u := by omega
    exact ⟨new1, nc, by rw [f_L_areChoices_L183, if_pos (Int32.le_refl _)], by omega, h2⟩
  | succ j ih =>
    intro i m new1 nc h1 hm h2 h3
    obtain ⟨m, rfl⟩ : ∃ m', m = m' + 1 := ⟨m - 1, by omega⟩
    have hle : ¬ nI u ≤ nI i := nI_ge (by omega) (by omega)
    have hb : (1 : Int32) <<< (nI i &&& 31) = bit i := rfl
    have step : ∀ nc1, nc1 ≤ nc + 1 → ∃ new2 nc2, f_L_areChoices_L183 N R (nI k) (nI u) 1 g w r e m 1 (nI (i + 1)) (upd new1 k (bit i)) nc1 = some (1, new2, nc2) ∧ nc2 ≤ nc + (j + 1) ∧ ∀ x, upd new2 k x = upd new k x := fun nc1 hc => by
      obtain ⟨a, b, c1, c2, c3⟩ := ih (i + 1) m (upd new1 k (bit i)) nc1 (by omega) (by omega) (fun x => by rw [upd_upd, h2]) (by omega)
      exact ⟨a, b, c1, by omega, c3⟩
    by_cases hbi : bt (e k) i = true
    · obtain ⟨R', y1, y2⟩ := p_winsOf0 (N := N) (by omega) (hV i (by omega))
      have hne : ¬ R' = R := fun h => hno i (by omega) hbi (by rw [← h]; exact y2)
      have hw := p_lwon (N := N) (g := g) (by omega) (hV i (by omega)) hg y2
      obtain ⟨a, b, c1, c2, c3⟩ := step (nc + 1) (by omega)
      refine ⟨a, b, ?_, c2, c3⟩
      have hdec : decide (nc + 1 ≤ 101) = true := decide_eq_true (by omega)
      simp only [f_L_areChoices_L183, if_neg hle, if_neg (show ¬ (1 : Int32) = 0 by decide), chk_t hgk, hck, bt_get (show i < 32 by omega), if_pos hbi, chk_t hdec, hb, h2, hw, Option.bind_some, if_neg hne, nI_1]
      rw [← h2]
      exact c1
    · obtain ⟨a, b, c1, c2, c3⟩ := step nc (by omega)
      refine ⟨a, b, ?_, c2, c3⟩
      simp only [f_L_areChoices_L183, if_neg hle, if_neg (show ¬ (1 : Int32) = 0 by decide), chk_t hgk, hck, bt_get (show i < 32 by omega), if_neg hbi, if_true, hb, Option.bind_some, nI_1]
      exact c1
theorem c_win {k : Nat} {R : Int32} {o : Nat → Int32} (hk : k < 32) (ho : o k = 0 ∨ o k = 1) : (((R >>> (nI k &&& 31)) &&& 1) = 1 - o k) ↔ bt R k = decide (owN o k = 0) := by
  rw [bt_get hk]
  rcases ho with e | e
  · have : owN o k = 0 := by unfold owN; rw [if_pos e]
    rw [this, e]
    cases bt R k <;> simp
  · have : owN o k = 1 := by unfold owN; rw [if_neg (by rw [e]; decide)]
    rw [this, e]
    cases bt R k <;> simp
theorem p_areCh {N n : Nat} {S : XS} {g w r e : Nat → Int32} {R : Int32} (hN : 100 ≤ N) (hn : n ≤ 8) (hg : g 0 = nI n) (hS : RS n S) (hq : ∀ k, k < n → w k = S.2.2 0 k ∧ r k = S.2.2 1 k ∧ e k = S.2.2 2 k) (hR : WinS n (S.2.2 0) (S.2.2 1) (S.2.2 2) R) :
    ∃ S2, f_L_areChoices N R S g w r e = some (1, S2) ∧ RS n S2 ∧ Same S S2 := by
  have V := hS.2.1
  obtain ⟨-, -, -, -, -, -, -, ch, -, -, -, -, hC⟩ := p_findChoices (N := N) (ot := fun _ => 0) (rt := fun _ => 0) (wt := fun _ => 0) (ch := fun _ => 0) (z := 0) (wk := 0) (wv := 0) (ck := 0) (by omega) V hR (fun h => absurd rfl h) (fun h => absurd rfl h)
  have hC0 := hC
  obtain ⟨R', tws, hR', hCS⟩ := hC
  obtain rfl := win_uniq V hR' hR
  have tail := CS_tail V hCS
  obtain ⟨h0, h1⟩ := hCS
  have V' : VF n w r e := VF_cong V hq
  obtain ⟨new0, z1, z2⟩ := for_inv (fun m k f => f_L_areChoices_L12 N g e m k f) n (fun k (f : Nat → Int32) => ∀ j, j < k → f j = e j) (fun f => ∀ j, j < n → f j = e j)
    (fun m f hf => ⟨f, by simp only [f_L_areChoices_L12, chk_t g01, c00, hg]; rw [if_pos (Int32.le_refl _)], hf⟩)
    (fun m k f hk hf => Or.inr ⟨upd f k (e k), by
      obtain ⟨k1, k2, k3, k4⟩ := idx hk (show n ≤ 12 by omega)
      simp only [f_L_areChoices_L12, chk_t g01, c00, hg, if_neg k1, chk_t k2, k3, k4], fun j hj => by
      by_cases ej : j = k
      · rw [ej, upd_s]
      · rw [upd_n ej]; exact hf j (by omega)⟩)
    0 N (fun _ => 0) (by omega) (by omega) (fun j hj => by omega)
  have z1 : f_L_areChoices_L12 N g e N 0 (fun _ => 0) = some new0 := z1
  obtain ⟨st, s1, s2⟩ := for_inv (fun m k (st : Int32 × XS × (Nat → Int32) × Nat) => f_L_areChoices_L39 N R' g w r e m st.1 k st.2.1 st.2.2.1 st.2.2.2) n
    (fun k st => st.1 = 1 ∧ RS n st.2.1 ∧ Same S st.2.1 ∧ (∀ v, v < n → st.2.2.1 v = tws k v) ∧ st.2.2.2 ≤ 1 + 9 * k)
    (fun st => st.1 = 1 ∧ RS n st.2.1 ∧ Same S st.2.1 ∧ st.2.2.2 ≤ 73)
    (fun m st h => ⟨st, by
      simp only [f_L_areChoices_L39, chk_t g01, c00, hg]; rw [if_pos (Int32.le_refl _)], h.1, h.2.1, h.2.2.1, by have := h.2.2.2.2; omega⟩)
    (fun m k st hk h => by
      obtain ⟨is, S1, new, nc⟩ := st
      obtain ⟨i1, i2, i3, i4, i5⟩ := h
      have i1 : is = 1 := i1
      subst i1
      have i2 : RS n S1 := i2
      have i3 : Same S S1 := i3
      have i4 : ∀ v, v < n → new v = tws k v := i4
      have i5 : nc ≤ 1 + 9 * k := i5
      obtain ⟨k1, k2, k3, k4⟩ := idx hk (show n ≤ 12 by omega)
      obtain ⟨f1, f2, f3⟩ := i3.1
      have hR1 : WinS n (S1.2.2 0) (S1.2.2 1) (S1.2.2 2) R' := by rw [f1, f2, f3]; exact hR
      obtain ⟨ch1, S2, p1, p2, p3, p4⟩ := q_pl5 (N := N) (by omega) i2 hR1 hk
      rw [f1, f2, f3] at p4
      have hch : ch1 k = ch k := cho_uniq V p4 hC0 k hk
      rw [hch] at p1
      have hdec : decide (nc + 0 ≤ 101) = true := decide_eq_true (by omega)
      obtain ⟨q1, q2, q3⟩ := hq k hk
      obtain ⟨a1, a2, a3⟩ := h1 k hk
      by_cases e0 : e k = 0
      · obtain ⟨b1, b2⟩ := a1 (by rw [← q3]; exact e0)
        refine Or.inr ⟨(1, S2, new, nc), ?_, rfl, p2, i3.tr p3, fun v hv => by rw [b2 v hv]; exact i4 v hv, by show nc ≤ _; omega⟩
        simp only [f_L_areChoices_L39, chk_t g01, c00, hg, if_neg k1, if_neg (show ¬ (1 : Int32) = 0 by decide), chk_t hdec, p1, Option.bind_some, chk_t k2, k3, if_pos e0, b1, if_true, k4]
      · have e0' : ¬ S.2.2 2 k = 0 := by rw [← q3]; exact e0
        have hsk : Sub n (e k) := (V'.2 k hk).2.2
        have hl := p_l89 (N := N) (k := k) (e := e) (by omega) (by omega) (hsk.mono (by omega)) e0
        obtain ⟨l1, l2⟩ := low_bt (show n ≤ 12 by omega) hsk e0
        have hlow : ∀ u, bt (e k) u = true → low (bt (e k)) 12 0 ≤ u := fun u hu => by
          rcases low_spec (bt (e k)) 12 0 with ⟨-, h2, -⟩ | ⟨h2, h3⟩
          · have hgen : ∀ j i u, i ≤ u → u < i + j → bt (e k) u = true → low (bt (e k)) j i ≤ u := by
              intro j
              induction j with
              | zero => intro i u h1 h2; omega
              | succ j ih =>
                intro i u h1 h2 h3
                show (if bt (e k) i = true then i else low (bt (e k)) j (i + 1)) ≤ u
                by_cases hb : bt (e k) i = true
                · rw [if_pos hb]; exact h1
                · rw [if_neg hb]
                  refine ih (i + 1) u ?_ (by omega) h3
                  rcases Nat.lt_or_ge i u with h | h
                  · exact h
                  · obtain rfl : i = u := by omega
                    exact absurd h3 hb
            exact hgen 12 0 u (Nat.zero_le _) (by have := hsk.lt hu; omega) hu
          · have := hsk.lt hu
            rw [h3 u (Nat.zero_le _) (by omega)] at hu; cases hu
        have hcw := c_win (R := R') (o := w) (show k < 32 by omega) (V'.2 k hk).1
        have how : owN w k = owN (S.2.2 0) k := by unfold owN; rw [q1]
        rw [how] at hcw
        by_cases ew : bt R' k = decide (owN (S.2.2 0) k = 0)
        · obtain ⟨u, u1, u2, u3, u4, u5, u6⟩ := a2 e0' ew
          rw [← q3] at u3
          have hlu := hlow u u3
          have hnt : ∀ i v, v < n → upd new k (bit i) v = upd (tws k) k (bit i) v := fun i v hv => by
            by_cases ev : v = k
            · rw [ev, upd_s, upd_s]
            · rw [upd_n ev, upd_n ev]; exact i4 v hv
          have hVn : ∀ i, i < n → VF n w r (upd new k (bit i)) := fun i hi => VF_t V' (fun v hv => by rw [i4 v hv]; exact (tail k (by omega) v hv).2) hi
          have hWc : ∀ i, WinS n w r (upd new k (bit i)) R' → WinS n (S.2.2 0) (S.2.2 1) (upd (tws k) k (bit i)) R' := fun i h => WinS_cong h (fun v hv => ⟨(hq v hv).1.symm, (hq v hv).2.1.symm, (hnt i v hv).symm⟩)
          obtain ⟨new2, nc2, y1, y2, y3⟩ := p_l183 (N := N) (n := n) (k := k) (u := u) (R := R') (g := g) (w := w) (r := r) (e := e) (new := new) (by omega) hn hg hk u1 hVn (fun i hi hb h => u5 i hi (by rw [← q3]; exact hb) (hWc i h)) (u - low (bt (e k)) 12 0) (low (bt (e k)) 12 0) N new nc (by omega) (by omega) (fun _ => rfl) (by omega)
          have hWu : WinS n w r (upd new k (bit u)) R' := WinS_cong u4 (fun v hv => ⟨(hq v hv).1, (hq v hv).2.1, hnt u v hv⟩)
          have hw := p_lwon (N := N) (g := g) (by omega) (hVn u u1) hg hWu
          have hdec2 : decide (nc2 + 1 ≤ 101) = true := decide_eq_true (by omega)
          have hb : (1 : Int32) <<< (nI u &&& 31) = bit u := rfl
          refine Or.inr ⟨(1, S2, upd new k (bit u), nc2 + 1), ?_, rfl, p2, i3.tr p3, fun v hv => by rw [u6 v hv]; exact hnt u v hv, by show nc2 + 1 ≤ _; omega⟩
          simp only [f_L_areChoices_L39, chk_t g01, c00, hg, if_neg k1, if_neg (show ¬ (1 : Int32) = 0 by decide), chk_t hdec, p1, Option.bind_some, chk_t k2, k3, if_neg e0, hl, if_pos (hcw.mpr ew), u2, if_neg (nI_nlt hlu (show u < 2 ^ 31 by omega)), if_neg (nI_ge u1 (by omega)), bt_get (show u < 32 by omega), if_pos u3, if_true, y1, chk_t hdec2, hb, y3, hw, k4]
        · obtain ⟨b1, b2⟩ := a3 e0' ew
          rw [← q3] at b1
          refine Or.inr ⟨(1, S2, upd new k (e k), nc), ?_, rfl, p2, i3.tr p3, fun v hv => ?_, by show nc ≤ _; omega⟩
          · have hloop : f_L_areChoices_L183 N R' (nI k) (nI (low (bt (e k)) 12 0)) 0 g w r e N 1 (nI (low (bt (e k)) 12 0)) new nc = some (1, new, nc) := by
              obtain ⟨N', rfl⟩ : ∃ N', N = N' + 1 := ⟨N - 1, by omega⟩
              rw [f_L_areChoices_L183, if_pos (Int32.le_refl _)]
            simp only [f_L_areChoices_L39, chk_t g01, c00, hg, if_neg k1, if_neg (show ¬ (1 : Int32) = 0 by decide), chk_t hdec, p1, Option.bind_some, chk_t k2, k3, if_neg e0, hl, if_neg (fun h => ew (hcw.mp h)), b1, if_neg (nI_nlt (Nat.le_refl _) (show low (bt (e k)) 12 0 < 2 ^ 31 by omega)), if_neg (nI_ge l2 (by omega)), bt_get (show low (bt (e k)) 12 0 < 32 by omega), if_pos l1, if_true, hloop, k4]
          · show upd new k (e k) v = tws (k + 1) v
            rw [b2 v hv]
            by_cases ev : v = k
            · rw [ev, upd_s, (tail k (by omega) k hk).1 (Nat.le_refl _), q3]
            · rw [upd_n ev]; exact i4 v hv)
    0 N (1, S, new0, 1) (by omega) (by omega) ⟨rfl, hS, Same.rf, fun v hv => by show new0 v = _; rw [z2 v hv, h0 v hv, (hq v hv).2.2], by show 1 ≤ _; omega⟩
  obtain ⟨is, S2, new2, nc2⟩ := st
  obtain ⟨j1, j2, j3, j4⟩ := s2
  have j1 : is = 1 := j1
  subst j1
  have s1 : f_L_areChoices_L39 N R' g w r e N 1 0 S new0 1 = some (1, S2, new2, nc2) := s1
  have hdec : decide (nc2 ≤ 101) = true := decide_eq_true (by have : nc2 ≤ 73 := j4; omega)
  have hz : isZ 1 = true := by decide
  exact ⟨S2, by simp only [f_L_areChoices, z1, Option.bind_some, s1, chk_t hdec, chk_t hz], j2, j3⟩
