/-! the class finds its winners and choices -/
theorem p_findWinners {N n : Nat} {o r w : Nat → Int32} {R wk wv : Int32} (hN : 14 ≤ N) (V : VF n o r w) (hR : WinS n o r w R) (hw : ¬ wk = 0 → wv = R) : ∃ wk', ¬ wk' = 0 ∧ f_X3_findWinners N o r w (nI n) wk wv = some (wk', R) := by
  by_cases e : wk = 0
  · obtain ⟨R', h1, h2⟩ := p_winsOf0 (N := N) hN V
    obtain rfl := win_uniq V h2 hR
    exact ⟨1, by decide, by simp only [f_X3_findWinners, if_pos e, h1, Option.bind_some]⟩
  · obtain rfl := hw e
    exact ⟨wk, e, by simp only [f_X3_findWinners, if_neg e]⟩
theorem p_wins0 {N : Nat} {z R : Int32} : f_X3_winsOf N 0 z R = some R := by
  simp only [f_X3_winsOf]; rfl
theorem p_wins1 {N : Nat} {z R : Int32} : f_X3_winsOf N 1 z R = some (((1 <<< (z &&& 31)) - 1) &&& (R ^^^ (-1))) := by
  simp only [f_X3_winsOf, if_neg (show ¬ (1 : Int32) = 0 by decide), f_X0_all, Option.bind_some]
theorem p_winnerFrom {N k : Nat} {R : Int32} (hk : k < 32) : f_X3_winnerFrom N (nI k) R = some (if bt R k = true then 0 else 1) := by
  simp only [f_X3_winnerFrom, Option.bind_some, f_contains hk]
  by_cases e : bt R k = true
  · simp [e]
  · simp [e]
theorem p_settle {N n k u : Nat} {o r w o' r' t tw : Nat → Int32} {R : Int32} (hN : 14 ≤ N) (V : VF n o r w) (hor : ∀ v, v < n → o' v = o v ∧ r' v = r v) (hk : k < n) (hb : bt R k = decide (owN o k = 0))
    (hu : u < n) (hq : bt (w k) u = true) (ht : ∀ v, v < n → Sub n (t v)) (htw : ∀ v, v < n → tw v = t v) (hW : WinS n o r (upd t k (bit u)) R) (hl : ∀ u', u' < u → bt (w k) u' = true → ¬ WinS n o r (upd t k (bit u')) R) :
    ∃ tw', f_X3_settle N (nI k) w (nI n) o' r' tw (nI n) R = some (nI u, tw') ∧ ∀ v, v < n → tw' v = upd t k (bit u) v := by
  have hn := V.1
  obtain ⟨k1, k2, k3, k4⟩ := idx hk hn
  have Vt : ∀ (tj : Nat → Int32) (j : Nat), j < n → (∀ v, v < n → v ≠ k → tj v = t v) → VF n o' r' (upd tj k (bit j)) ∧ ∀ R', WinS n o' r' (upd tj k (bit j)) R' → WinS n o r (upd t k (bit j)) R' := fun tj j hj h => by
    have e : ∀ v, v < n → upd tj k (bit j) v = upd t k (bit j) v := fun v hv => by
      unfold upd; split
      · rfl
      · next hne => exact h v hv hne
    have V1 : VF n o r (upd t k (bit j)) := ⟨hn, fun v hv => ⟨(V.2 v hv).1, (V.2 v hv).2.1, by
      by_cases ev : v = k
      · rw [ev, upd_s]; exact bit_sub hn hj
      · rw [upd_n ev]; exact ht v hv⟩⟩
    exact ⟨VF_cong V1 (fun v hv => ⟨(hor v hv).1, (hor v hv).2, e v hv⟩), fun R' h' => WinS_cong h' (fun v hv => ⟨((hor v hv).1).symm, ((hor v hv).2).symm, (e v hv).symm⟩)⟩
  have V0 : VF n o r (upd t k (bit u)) := ⟨hn, fun v hv => ⟨(V.2 v hv).1, (V.2 v hv).2.1, by
      by_cases ev : v = k
      · rw [ev, upd_s]; exact bit_sub hn hu
      · rw [upd_n ev]; exact ht v hv⟩⟩
  have hsame := cho_same hn hu hk hW hb
  obtain ⟨y, e1, e2⟩ := for_inv (fun m x (st : Nat → Int32) => f_X3_settle_L12 N (nI k) (w k) (nI n) o' r' (nI n) R m x st) n
    (fun j st => j ≤ u ∧ ∀ v, v < n → v ≠ k → st v = t v)
    (fun b => ∃ tw', b = .inl (nI u, tw') ∧ ∀ v, v < n → tw' v = upd t k (bit u) v)
    (fun m st h => absurd h.1 (by omega))
    (fun m j tj hj h => by
      obtain ⟨h1, h2⟩ := h
      obtain ⟨j1, j2, j3, j4⟩ := idx hj hn
      by_cases eb : bt (w k) j = true
      · have a2 := p_winnerFrom (N := N) (k := j) (R := R) (by omega)
        have a4 := p_winnerFrom (N := N) (k := k) (R := R) (by omega)
        by_cases es : bt R j = bt R k
        · obtain ⟨V1, hback⟩ := Vt tj j hj h2
          obtain ⟨R', b1, b2⟩ := p_winsOf0 (N := N) hN V1
          have b1 : f_X1_winsOf0 N o' r' (upd tj k (1 <<< (nI j &&& 31))) (nI n) = some R' := b1
          have b4 := p_wins0 (N := N) (z := nI n) (R := R)
          by_cases er : R' = R
          · subst er
            have hju : j = u := by
              rcases Nat.lt_or_ge j u with hlt | hge
              · exact absurd (hback R' b2) (hl j hlt eb)
              · omega
            subst hju
            refine Or.inl ⟨_, ?_, upd tj k (bit j), rfl, fun v hv => ?_⟩
            · simp only [f_X3_settle_L12, if_neg j1, f_contains (show j < 32 by omega), eb, if_true, Option.bind_some, if_neg (show ¬ (1 : Int32) = 0 by decide), a2, a4, es, chk_t k2, k3, b1, b4, sm]
              rfl
            · unfold upd; split
              · rfl
              · next hne => exact h2 v hv hne
          · refine Or.inr ⟨upd tj k (bit j), ?_, ?_, fun v hv hne => ?_⟩
            · simp only [f_X3_settle_L12, if_neg j1, f_contains (show j < 32 by omega), eb, if_true, Option.bind_some, if_neg (show ¬ (1 : Int32) = 0 by decide), a2, a4, es, chk_t k2, k3, b1, b4, sm, if_neg er, j4]
              rfl
            · have : j ≠ u := fun e => by
                subst e
                exact er (win_uniq V0 (hback R' b2) hW)
              omega
            · show upd tj k (bit j) v = t v
              rw [upd_n hne]; exact h2 v hv hne
        · refine Or.inr ⟨tj, ?_, ?_, h2⟩
          · have en : ¬ (if bt R j = true then (0 : Int32) else 1) = (if bt R k = true then 0 else 1) := by
              cases x : bt R j <;> cases y : bt R k <;> simp_all
            simp only [f_X3_settle_L12, if_neg j1, f_contains (show j < 32 by omega), eb, if_true, Option.bind_some, if_neg (show ¬ (1 : Int32) = 0 by decide), a2, a4, if_neg en, sm, j4]
          · have : j ≠ u := fun e => es (by rw [e]; exact hsame)
            omega
      · refine Or.inr ⟨tj, ?_, ?_, h2⟩
        · simp only [f_X3_settle_L12, if_neg j1, f_contains (show j < 32 by omega), if_neg eb, if_true, Option.bind_some, sm, j4]
        · have : j ≠ u := fun e => eb (by rw [e]; exact hq)
          omega)
    0 N tw (by omega) (by omega) ⟨by omega, fun v hv _ => htw v hv⟩
  obtain ⟨tw', c2, c3⟩ := e2
  refine ⟨tw', ?_, c3⟩
  have e1 : f_X3_settle_L12 N (nI k) (w k) (nI n) o' r' (nI n) R N 0 tw = some y := e1
  subst c2
  simp only [f_X3_settle, chk_t k2, k3, e1, Option.bind_some, sm]
theorem owN_dec {n k : Nat} {o r w : Nat → Int32} {R : Int32} (V : VF n o r w) (hk : k < n) : (o k = (if bt R k = true then 0 else 1)) ↔ bt R k = decide (owN o k = 0) := by
  rcases (V.2 k hk).1 with e | e
  · have : owN o k = 0 := by unfold owN; rw [if_pos e]
    rw [this, e]
    cases bt R k <;> simp
  · have : owN o k = 1 := by unfold owN; rw [if_neg (by rw [e]; decide)]
    rw [this, e]
    cases bt R k <;> simp
theorem p_findChoices {N n : Nat} {o r w ot rt wt ch : Nat → Int32} {z R wk wv ck : Int32} (hN : 14 ≤ N) (V : VF n o r w) (hR : WinS n o r w R) (hw : ¬ wk = 0 → wv = R) (hc : ¬ ck = 0 → ChoS n o r w ch ∧ ¬ wk = 0) :
    ∃ o' r' w' z' wk' wv' ck' ch', f_X3_findChoices N o r w (nI n) ot rt wt z wk wv ck ch = some (o', r', w', z', wk', wv', ck', ch') ∧ ¬ wk' = 0 ∧ wv' = R ∧ ¬ ck' = 0 ∧ ChoS n o r w ch' := by
  have hn := V.1
  by_cases e : ck = 0
  · obtain ⟨o', r', w', y1, y2⟩ := p_copyFrom (N := N) (n := n) (o := o) (r := r) (w := w) (o2 := ot) (r2 := rt) (w2 := wt) (z := z) (by omega) hn
    obtain ⟨wk1, g1, g2⟩ := p_findWinners (N := N) hN V hR hw
    obtain ⟨y, e1, e2⟩ := for_inv (fun m x (st : (Nat → Int32) × (Nat → Int32)) => f_X3_findChoices_L25 N o w (nI n) o' r' (nI n) R m x st.1 st.2) n
      (fun k st => CI n o r w R k st.1 st.2)
      (fun st => CI n o r w R n st.1 st.2)
      (fun m st h => ⟨st, by simp only [f_X3_findChoices_L25]; rw [if_pos (Int32.le_refl _)], h⟩)
      (fun m k st hk h1 => by
        obtain ⟨tw, chj⟩ := st
        have h1 : CI n o r w R k tw chj := h1
        obtain ⟨k1, k2, k3, k4⟩ := idx hk hn
        by_cases e0 : w k = 0
        · refine Or.inr ⟨(tw, upd chj k (-4)), ?_, CI_keep h1 (fun j hj => upd_n (by omega)) (Or.inl ⟨e0, upd_s⟩)⟩
          simp only [f_X3_findChoices_L25, if_neg k1, chk_t k2, k3, e0, if_true, Option.bind_some, k4]
        · have a2 := p_winnerFrom (N := N) (k := k) (R := R) (by omega)
          by_cases eo : bt R k = decide (owN o k = 0)
          · obtain ⟨t, u, b1, b2, b3, b4, b5, b6, b7⟩ := CI_set hn hk h1 e0 eo
            obtain ⟨tw', c2, c3⟩ := p_settle (N := N) (o' := o') (r' := r') hN V (fun v hv => ⟨(y2 v hv).1, (y2 v hv).2.1⟩) hk eo b1 b2 b3 b4 b5 b6
            refine Or.inr ⟨(tw', upd chj k (nI u)), ?_, b7 tw' _ c3 (fun j hj => upd_n (by omega)) upd_s⟩
            simp only [f_X3_findChoices_L25, if_neg k1, chk_t k2, k3, if_neg e0, a2, Option.bind_some, if_pos ((owN_dec V hk).mpr eo), c2, k4]
          · refine Or.inr ⟨(tw, upd chj k (nI (low (bt (w k)) 12 0))), ?_, CI_keep h1 (fun j hj => upd_n (by omega)) (Or.inr ⟨e0, eo, upd_s⟩)⟩
            simp only [f_X3_findChoices_L25, if_neg k1, chk_t k2, k3, if_neg e0, a2, Option.bind_some, if_neg (fun h => eo ((owN_dec V hk).mp h)), f_tz (N := N) ((V.2 k hk).2.2.mono hn) e0, k4])
      0 N (w', ch) (by omega) (by omega) (CI_0 V hR (fun v hv => (y2 v hv).2.2))
    obtain ⟨tw, chj⟩ := y
    obtain ⟨tws, t1, t2, -⟩ := e2
    refine ⟨o', r', tw, nI n, wk1, R, 1, chj, ?_, g1, rfl, by decide, R, tws, hR, t1⟩
    have e1 : f_X3_findChoices_L25 N o w (nI n) o' r' (nI n) R N 0 w' ch = some (tw, chj) := e1
    simp only [f_X3_findChoices, if_pos e, g2, y1, Option.bind_some, e1]
  · exact ⟨ot, rt, wt, z, wk, wv, ck, ch, by simp only [f_X3_findChoices, if_neg e], (hc e).2, hw (hc e).2, e, (hc e).1⟩
