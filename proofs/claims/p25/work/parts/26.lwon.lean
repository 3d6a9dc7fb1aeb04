/-! the law's loops: sets of ranks one within another -/
theorem upd_upd {y : Nat → Int32} {k : Nat} {a b : Int32} : upd (upd y k a) k b = upd y k b := by
  funext j
  unfold upd
  split <;> rfl
theorem lev {n i N : Nat} {o r w : Nat → Int32} {all : Int32} {FL : Nat → Int32 → (Nat → Int32) → Option (Nat → Int32)} {IN : (Nat → Int32) → Option (Nat → Int32)} (hn : n ≤ 12) (hN : n + 2 < N)
    (hstep : ∀ m a x, FL (m + 1) a x = if nI n < a then some x else Option.bind (IN x) (fun q => Option.bind (α := Int32) (if q (i + 1) = q i then some (nI n) else some a) (fun t => FL m (t + 1) (upd q (i + 1) (q i)))))
    (hin : ∀ x, ∃ q, IN x = some q ∧ q i = Vv n o r w all (i + 1) x ∧ ∀ j, i < j → q j = x j) (x : Nat → Int32) (hx : x (i + 1) = if (i + 1) % 2 = 0 then all else 0) :
    ∃ q, FL N 0 x = some q ∧ q (i + 1) = Vv n o r w all (i + 2) x ∧ ∀ j, i + 1 < j → q j = x j := by
  obtain ⟨F, hF⟩ : ∃ F : Int32 → Int32, F = fun X => Vv n o r w all (i + 1) (upd x (i + 1) X) := ⟨_, rfl⟩
  have hV : ∀ x', (∀ j, i + 1 < j → x' j = x j) → Vv n o r w all (i + 1) x' = F (x' (i + 1)) := fun x' h => by
    rw [hF]
    exact Vv_cg hn (fun j hj => by
      by_cases e : j = i + 1
      · rw [e, upd_e]
      · rw [upd_d e]; exact h j (by omega))
  have key : ∀ j m k x', k + j = n + 1 → j < m → x' (i + 1) = it F k (x (i + 1)) → (∀ j, i + 1 < j → x' j = x j) → ∃ q, FL m (nI k) x' = some q ∧ q (i + 1) = it F (n + 1) (x (i + 1)) ∧ ∀ j, i + 1 < j → q j = x j := by
    intro j
    induction j with
    | zero =>
      intro m k x' hk hm h1 h2
      obtain ⟨m, rfl⟩ : ∃ m', m = m' + 1 := ⟨m - 1, by omega⟩
      obtain rfl : k = n + 1 := by omega
      exact ⟨x', by rw [hstep, if_pos (nI_lt (by omega) (by omega))], h1, h2⟩
    | succ j ih =>
      intro m k x' hk hm h1 h2
      obtain ⟨m, rfl⟩ : ∃ m', m = m' + 1 := ⟨m - 1, by omega⟩
      obtain ⟨q, e1, e2, e3⟩ := hin x'
      have e4 : q i = it F (k + 1) (x (i + 1)) := by
        rw [e2, hV x' h2, h1]; rfl
      rw [hstep, if_neg (nI_nlt (by omega) (by omega)), e1, Option.bind_some]
      by_cases e : q (i + 1) = q i
      · rw [if_pos e, Option.bind_some, nI_1]
        obtain ⟨m, rfl⟩ : ∃ m', m = m' + 1 := ⟨m - 1, by omega⟩
        refine ⟨upd q (i + 1) (q i), by rw [hstep, if_pos (nI_lt (by omega) (by omega))], ?_, fun j hj => by rw [upd_d (by omega), e3 j (by omega), h2 j hj]⟩
        rw [upd_e]
        have h3 : it F k (x (i + 1)) = it F (k + 1) (x (i + 1)) := by rw [← e4, ← e, e3 (i + 1) (by omega), h1]
        have h4 := it_stop h3 (n + 1 - k)
        rw [show k + (n + 1 - k) = n + 1 from by omega] at h4
        rw [e4, h4, h3]
      · rw [if_neg e, Option.bind_some, nI_1]
        exact ih m (k + 1) _ (by omega) (by omega) (by rw [upd_e]; exact e4) (fun j hj => by rw [upd_d (by omega), e3 j (by omega), h2 j hj])
  obtain ⟨q, q1, q2, q3⟩ := key (n + 1) N 0 x (by omega) (by omega) rfl (fun _ _ => rfl)
  refine ⟨q, q1, ?_, q3⟩
  rw [q2, hF, hx]
  rfl
theorem lev0 {n N : Nat} {o r w : Nat → Int32} {all : Int32} {FL : Nat → Int32 → (Nat → Int32) → Option (Nat → Int32)} (hn : n ≤ 12) (hall : ∀ i, i < 32 → bt all i = decide (i < n)) (hN : n + 3 < N)
    (hstep : ∀ m a x, FL (m + 1) a x = if a = x 0 then some x else FL m (x 0) (upd x 0 (nxs o r w x n))) (x : Nat → Int32) (hx : x 0 = all) :
    ∃ q, FL N (-1) x = some q ∧ q 0 = Vv n o r w all 1 x ∧ ∀ j, 0 < j → q j = x j := by
  obtain ⟨F, hF⟩ : ∃ F : Int32 → Int32, F = fun X => Vv n o r w all 0 (upd x 0 X) := ⟨_, rfl⟩
  have hV : ∀ x', (∀ j, 0 < j → x' j = x j) → nxs o r w x' n = F (x' 0) := fun x' h => by
    rw [hF]
    exact Vv_cg (all := all) hn (i := 0) (fun j hj => by
      by_cases e : j = 0
      · rw [e, upd_e]
      · rw [upd_d e]; exact h j (by omega))
  have hfix : it F n all = it F (n + 1) all := by
    rw [hF]
    exact Vv_fix (o := o) (r := r) (w := w) hn hall 0 x
  have key : ∀ j m k x', k + j = n → j < m → x' 0 = it F (k + 1) all → (∀ j, 0 < j → x' j = x j) → ∃ q, FL m (it F k all) x' = some q ∧ q 0 = it F (n + 1) all ∧ ∀ j, 0 < j → q j = x j := by
    intro j
    induction j with
    | zero =>
      intro m k x' hk hm h1 h2
      obtain ⟨m, rfl⟩ : ∃ m', m = m' + 1 := ⟨m - 1, by omega⟩
      obtain rfl : k = n := by omega
      exact ⟨x', by rw [hstep, if_pos (by rw [h1, hfix])], h1, h2⟩
    | succ j ih =>
      intro m k x' hk hm h1 h2
      obtain ⟨m, rfl⟩ : ∃ m', m = m' + 1 := ⟨m - 1, by omega⟩
      rw [hstep]
      by_cases e : it F k all = x' 0
      · rw [if_pos e]
        refine ⟨x', rfl, ?_, h2⟩
        have h3 : it F k all = it F (k + 1) all := by rw [← h1]; exact e
        have h4 := it_stop h3 (n + 1 - k)
        rw [show k + (n + 1 - k) = n + 1 from by omega] at h4
        rw [h4, e]
      · rw [if_neg e, hV x' h2, h1]
        exact ih m (k + 1) _ (by omega) (by omega) (by rw [upd_e]; rfl) (fun j hj => by rw [upd_d (by omega), h2 j hj])
  obtain ⟨N, rfl⟩ : ∃ N', N = N' + 1 := ⟨N - 1, by omega⟩
  have hne : ¬ (-1 : Int32) = x 0 := fun e => by
    have h1 := b_m1 31 (by omega)
    rw [e, hx, hall 31 (by omega)] at h1
    have := of_decide_eq_true h1
    omega
  rw [hstep, if_neg hne, hV x (fun _ _ => rfl), hx]
  obtain ⟨q, q1, q2, q3⟩ := key n N 0 (upd x 0 (F all)) (by omega) (by omega) (by rw [upd_e]; rfl) (fun j hj => by rw [upd_d (by omega)])
  refine ⟨q, q1, ?_, q3⟩
  rw [q2, hF]
  rfl
theorem Vv_st {n i s : Nat} {o r w x : Nat → Int32} {all v : Int32} (hn : n ≤ 12) (h : s < i) : Vv n o r w all i (upd x s v) = Vv n o r w all i x := Vv_cg hn (fun j hj => upd_d (by omega))
theorem p_lwon {N n : Nat} {g o r w : Nat → Int32} {R : Int32} (hN : 16 ≤ N) (V : VF n o r w) (hg : g 0 = nI n) (hR : WinS n o r w R) : f_L_won N g o r w = some R := by
  have hn := V.1
  have hall : ∀ i, i < 32 → bt ((1 <<< (nI n &&& 31)) - 1) i = decide (i < n) := fun i hi => bt_all n (by omega) i hi
  have hf : f_L_all N g = some ((1 <<< (nI n &&& 31)) - 1) := by simp only [f_L_all, chk_t g01, c00, hg]
  generalize ((1 : Int32) <<< (nI n &&& 31)) - 1 = all at hall hf
  have g0 : gi 0 6 = true := by decide
  have g1 : gi 1 6 = true := by decide
  have g2 : gi 2 6 = true := by decide
  have g3 : gi 3 6 = true := by decide
  have g4 : gi 4 6 = true := by decide
  have g5 : gi 5 6 = true := by decide
  have c1 : Int32.toNatClampNeg 1 = 1 := by decide
  have c2 : Int32.toNatClampNeg 2 = 2 := by decide
  have c3 : Int32.toNatClampNeg 3 = 3 := by decide
  have c4 : Int32.toNatClampNeg 4 = 4 := by decide
  have c5 : Int32.toNatClampNeg 5 = 5 := by decide
  have in0 : ∀ x, ∃ q, f_L_won_L109 N g o r w N (-1) (upd x 0 all) = some q ∧ q 0 = Vv n o r w all 1 x ∧ ∀ j, 0 < j → q j = x j := fun x => by
    obtain ⟨q, e1, e2, e3⟩ := lev0 (N := N) (o := o) (r := r) (w := w) (FL := fun m a x => f_L_won_L109 N g o r w m a x) hn hall (by omega) (fun m a x => by
      simp only [f_L_won_L109, chk_t g0, c00, p_next (N := N) (y := x) (by omega) V hg, Option.bind_some]) (upd x 0 all) upd_e
    exact ⟨q, e1, by rw [e2, Vv_st hn (by omega)], fun j hj => by rw [e3 j hj, upd_d (by omega)]⟩
  have in1 : ∀ x, ∃ q, f_L_won_L92 N all g o r w N 0 (upd x 1 0) = some q ∧ q 1 = Vv n o r w all 2 x ∧ ∀ j, 1 < j → q j = x j := fun x => by
    obtain ⟨q, e1, e2, e3⟩ := lev (i := 0) (N := N) (o := o) (r := r) (w := w) (all := all) (FL := fun m a x => f_L_won_L92 N all g o r w m a x) (IN := fun x => f_L_won_L109 N g o r w N (-1) (upd x 0 all)) hn (by omega) (fun m a x => by
      simp only [f_L_won_L92, chk_t g0, chk_t g1, chk_t g01, c00, c1, hg]) in0 (upd x 1 0) upd_e
    exact ⟨q, e1, by rw [e2, Vv_st hn (by omega)], fun j hj => by rw [e3 j hj, upd_d (by omega)]⟩
  have in2 : ∀ x, ∃ q, f_L_won_L75 N 0 all g o r w N 0 (upd x 2 all) = some q ∧ q 2 = Vv n o r w all 3 x ∧ ∀ j, 2 < j → q j = x j := fun x => by
    obtain ⟨q, e1, e2, e3⟩ := lev (i := 1) (N := N) (o := o) (r := r) (w := w) (all := all) (FL := fun m a x => f_L_won_L75 N 0 all g o r w m a x) (IN := fun x => f_L_won_L92 N all g o r w N 0 (upd x 1 0)) hn (by omega) (fun m a x => by
      simp only [f_L_won_L75, chk_t g1, chk_t g2, chk_t g01, c00, c1, c2, hg]) in1 (upd x 2 all) upd_e
    exact ⟨q, e1, by rw [e2, Vv_st hn (by omega)], fun j hj => by rw [e3 j hj, upd_d (by omega)]⟩
  have in3 : ∀ x, ∃ q, f_L_won_L58 N 0 all g o r w N 0 (upd x 3 0) = some q ∧ q 3 = Vv n o r w all 4 x ∧ ∀ j, 3 < j → q j = x j := fun x => by
    obtain ⟨q, e1, e2, e3⟩ := lev (i := 2) (N := N) (o := o) (r := r) (w := w) (all := all) (FL := fun m a x => f_L_won_L58 N 0 all g o r w m a x) (IN := fun x => f_L_won_L75 N 0 all g o r w N 0 (upd x 2 all)) hn (by omega) (fun m a x => by
      simp only [f_L_won_L58, chk_t g2, chk_t g3, chk_t g01, c00, c2, c3, hg]) in2 (upd x 3 0) upd_e
    exact ⟨q, e1, by rw [e2, Vv_st hn (by omega)], fun j hj => by rw [e3 j hj, upd_d (by omega)]⟩
  have in4 : ∀ x, ∃ q, f_L_won_L41 N 0 all g o r w N 0 (upd x 4 all) = some q ∧ q 4 = Vv n o r w all 5 x ∧ ∀ j, 4 < j → q j = x j := fun x => by
    obtain ⟨q, e1, e2, e3⟩ := lev (i := 3) (N := N) (o := o) (r := r) (w := w) (all := all) (FL := fun m a x => f_L_won_L41 N 0 all g o r w m a x) (IN := fun x => f_L_won_L58 N 0 all g o r w N 0 (upd x 3 0)) hn (by omega) (fun m a x => by
      simp only [f_L_won_L41, chk_t g3, chk_t g4, chk_t g01, c00, c3, c4, hg]) in3 (upd x 4 all) upd_e
    exact ⟨q, e1, by rw [e2, Vv_st hn (by omega)], fun j hj => by rw [e3 j hj, upd_d (by omega)]⟩
  obtain ⟨q, e1, e2, -⟩ := lev (i := 4) (N := N) (o := o) (r := r) (w := w) (all := all) (FL := fun m a x => f_L_won_L24 N 0 all g o r w m a x) (IN := fun x => f_L_won_L41 N 0 all g o r w N 0 (upd x 4 all)) hn (by omega) (fun m a x => by
      simp only [f_L_won_L24, chk_t g4, chk_t g5, chk_t g01, c00, c4, c5, hg]) in4 (upd (fun _ => 0) 5 0) upd_e
  have e1 : f_L_won_L24 N 0 all g o r w N 0 (upd (fun _ => 0) 5 0) = some q := e1
  have e2 : q 5 = R := by rw [← Vv_win V hall hR]; exact e2
  simp only [f_L_won, hf, Option.bind_some, chk_t g5, c5, e1, e2]
