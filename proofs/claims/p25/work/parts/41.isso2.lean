/-! step by step -/
theorem chk_i {α : Type} {b : Bool} {k : Option α} {y : Option α} (hb : b = true) (h : k = y) : chk b k = y := by rw [chk_t hb]; exact h
theorem bd_i {α β : Type} {x : Option α} {f : α → Option β} {q : α} {y : Option β} (hx : x = some q) (h : f q = y) : Option.bind x f = y := by rw [hx]; exact h
theorem it_i {α : Type} {c : Prop} {i : Decidable c} {a b y : α} (hc : c) (h : a = y) : ite c a b = y := by rw [if_pos hc]; exact h
theorem it_e {α : Type} {c : Prop} {i : Decidable c} {a b y : α} (hc : ¬ c) (h : b = y) : ite c a b = y := by rw [if_neg hc]; exact h
theorem mxr_0 (f : Nat → Nat) : mxr f 0 = 0 := rfl
theorem p_isSo {N n : Nat} {S : XS} {g w r e : Nat → Int32} {x5 : Int32} (hN : 100 ≤ N) (hn : n ≤ 8) (hg : g 0 = nI n) (hS : RS n S) (hT : S.2.1 13 = 0) (hq : ∀ k, k < n → w k = S.2.2 0 k ∧ r k = S.2.2 1 k ∧ e k = S.2.2 2 k) :
    ∃ S2, f_L_isSo N x5 S g w r e = some (1, S2) ∧ RS n S2 ∧ Same S S2 := by
  have V := hS.2.1
  have V' : VF n w r e := VF_cong V hq
  obtain ⟨R, -, hR⟩ := p_winsOf0 (N := N) (by omega) V
  have hR' : WinS n w r e R := WinS_cong hR hq
  have hw := p_lwon (N := N) (g := g) (by omega) V' hg hR'
  obtain ⟨a, d, mo, is, S1, s1, i1, i2, i3, i4, i5, i6⟩ := p_isl (N := N) (nc := 0 + 1) hN hn hg hS hq hR (by omega)
  subst i4
  have hd1 : decide (0 + 1 ≤ 103) = true := decide_eq_true (by omega)
  have hd2 : decide (0 + 1 + 0 ≤ 103) = true := decide_eq_true (by omega)
  have hd3 : decide (0 + 1 + 101 ≤ 103) = true := decide_eq_true (by omega)
  obtain ⟨T0, a0, b0, c0⟩ := q_co0 (N := N) (by omega) i5
  have s2 := i6.tr c0
  obtain ⟨T1, a1, b1, c1⟩ := q_co1 (N := N) (by omega) b0
  have s3 := s2.tr c1
  have wr : ∀ T : XS, Same S T → WinS n (T.2.2 0) (T.2.2 1) (T.2.2 2) R := fun T h => by rw [h.1.1, h.1.2.1, h.1.2.2]; exact hR
  obtain ⟨T2, a2, b2, c2⟩ := q_co2 (N := N) (by omega) b1 (wr _ s3)
  have s4 := s3.tr c2
  obtain ⟨T3, a3, b3, c3⟩ := q_co3 (N := N) (by omega) b2 (wr _ s4)
  have s5 := s4.tr c3
  obtain ⟨x, T4, a4, b4, c4, x2⟩ := q_co4 (N := N) (by omega) b3
  have s6 := s5.tr c4
  obtain ⟨T5, a5, b5, c5⟩ := q_co5 (N := N) (by omega) b4
  have s7 := s6.tr c5
  obtain ⟨T6, a6, b6, c6⟩ := q_co7 (N := N) (by omega) b5
  have s8 := s7.tr c6
  obtain ⟨T7, a7, b7, c7⟩ := q_pln (N := N) b6
  have s9 := s8.tr c7
  have su_cg : ∀ m, m ≤ n → su (fun v => cn (bt (T0.2.2 2 v)) 12) m = su (fun v => cn (bt (e v)) 12) m := fun m => by
    induction m with
    | zero => exact fun _ => rfl
    | succ m ih =>
      intro hm
      show su _ m + cn (bt (T0.2.2 2 m)) 12 = su _ m + cn (bt (e m)) 12
      rw [ih (by omega), s2.1.2.2, (hq m (by omega)).2.2]
  rw [su_cg n (Nat.le_refl _), ← i1] at a1
  have e4 : x = d := by
    apply b_ext
    intro i hi
    rw [x2 i hi, i2 i hi]
    by_cases hin : i < n
    · rw [s5.1.2.2, (hq i hin).2.2]
    · simp [hin]
  rw [e4] at a4
  have mx_cg : ∀ m, m ≤ n → mxr (rkN (T4.2.2 1)) m = mxr (rkN r) m := fun m => by
    induction m with
    | zero => exact fun _ => (mxr_0 _).trans (mxr_0 _).symm
    | succ m ih =>
      intro hm
      have : rkN (T4.2.2 1) m = rkN r m := by unfold rkN; rw [s6.1.2.1, (hq m (by omega)).2.1]
      rw [mxr_s, mxr_s, ih (by omega), this]
  rw [mx_cg n (Nat.le_refl _), ← i3] at a5
  have e6 : T5.2.1 13 = 0 := by rw [s7.2.1]; exact hT
  rw [e6] at a6
  have hall : f_L_all N g = some ((1 <<< (nI n &&& 31)) - 1) := by simp only [f_L_all, chk_t g01, c00, hg]
  rw [← all_sub (show n ≤ 12 by omega) hR.1] at a3
  have hc0 : nI n = g (Int32.toNatClampNeg 0) := by rw [c00, hg]
  rw [hc0] at a7
  have h10 : ¬ (1 : Int32) = 0 := by decide
  by_cases e5 : x5 = 0
  · refine ⟨T7, ?_, b7, s9⟩
    unfold f_L_isSo
    refine chk_i hd1 (bd_i hw (bd_i s1 (it_e h10 (chk_i hd2 (bd_i a0 (chk_i g01 (it_i hc0 (chk_i hd2 (bd_i a1 (it_i rfl (chk_i hd2 (bd_i a2 (it_i rfl (chk_i hd2 (bd_i a3 (chk_i hd2 (bd_i hall (it_i rfl (chk_i hd2 (bd_i a4 (it_i rfl (chk_i hd2 (bd_i a5 (it_i rfl (chk_i hd2 (bd_i a6 (it_i rfl (chk_i g01 (chk_i hd2 (bd_i a7 (it_i rfl ?_)))))))))))))))))))))))))))))))
    exact bd_i (it_i e5 rfl) (chk_i (decide_eq_true (show 0 + 1 ≤ 103 by omega)) rfl)
  · obtain ⟨T8, a8, b8, c8⟩ := p_areCh (N := N) (S := T7) hN hn hg b7 (fun k hk => by rw [s9.1.1, s9.1.2.1, s9.1.2.2]; exact hq k hk) (wr _ s9)
    refine ⟨T8, ?_, b8, s9.tr c8⟩
    unfold f_L_isSo
    refine chk_i hd1 (bd_i hw (bd_i s1 (it_e h10 (chk_i hd2 (bd_i a0 (chk_i g01 (it_i hc0 (chk_i hd2 (bd_i a1 (it_i rfl (chk_i hd2 (bd_i a2 (it_i rfl (chk_i hd2 (bd_i a3 (chk_i hd2 (bd_i hall (it_i rfl (chk_i hd2 (bd_i a4 (it_i rfl (chk_i hd2 (bd_i a5 (it_i rfl (chk_i hd2 (bd_i a6 (it_i rfl (chk_i g01 (chk_i hd2 (bd_i a7 (it_i rfl ?_)))))))))))))))))))))))))))))))
    exact bd_i (it_e e5 (chk_i hd3 (bd_i a8 (it_e h10 rfl)))) (chk_i (decide_eq_true (show 0 + 1 + 101 ≤ 103 by omega)) rfl)
