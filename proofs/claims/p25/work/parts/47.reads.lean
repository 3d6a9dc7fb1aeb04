/-! fields as texts: typed, looked at, read -/
def sepk (k : Nat) : List Nat := if k = 0 then [] else [59]
/-- the text of the places below k -/
def tx (ow rk : Nat → Nat) (ws : Nat → List Nat) : Nat → List Nat
  | 0 => []
  | k + 1 => tx ow rk ws k ++ (sepk k ++ pl ow rk ws k)
theorem tx_rtx (ow rk : Nat → Nat) (ws : Nat → List Nat) : ∀ j k, tx ow rk ws k ++ (sepk k ++ rtx ow rk ws k (j + 1)) = tx ow rk ws (k + j + 1) := by
  intro j
  induction j with
  | zero =>
    intro k
    show tx ow rk ws k ++ (sepk k ++ (pl ow rk ws k ++ [])) = tx ow rk ws k ++ (sepk k ++ pl ow rk ws k)
    rw [List.append_nil]
  | succ j ih =>
    intro k
    have h := ih (k + 1)
    have e1 : k + 1 + j + 1 = k + (j + 1) + 1 := by omega
    rw [e1] at h
    rw [← h]
    show tx ow rk ws k ++ (sepk k ++ (pl ow rk ws k ++ (if j + 1 = 0 then [] else 59 :: rtx ow rk ws (k + 1) (j + 1)))) = (tx ow rk ws k ++ (sepk k ++ pl ow rk ws k)) ++ (sepk (k + 1) ++ rtx ow rk ws (k + 1) (j + 1))
    rw [if_neg (Nat.succ_ne_zero j), show sepk (k + 1) = [59] from if_neg (Nat.succ_ne_zero k)]
    simp only [List.append_assoc, List.singleton_append]
theorem tx_len {n : Nat} {ow rk : Nat → Nat} {ws : Nat → List Nat} (hl : ∀ k, (ws k).length ≤ 5) : ∀ k, (tx ow rk ws k).length ≤ 13 * k := by
  intro k
  induction k with
  | zero => exact Nat.le_refl 0
  | succ k ih =>
    show (tx ow rk ws k ++ (sepk k ++ (ocr (ow k) :: (48 + rk k) :: wtx 58 (ws k)))).length ≤ _
    have h1 : (sepk k).length ≤ 1 := by unfold sepk; split <;> simp
    have h2 := hl k
    simp only [List.length_append, List.length_cons, wtx_len]
    omega
section READS
variable (n y : Nat)
def owY (k : Nat) : Nat := y / (2 + k) % 2
def rkY (k : Nat) : Nat := y / (3 + 2 * k) % 6
def stY (k : Nat) : Int32 := nI (y / (5 + 3 * k)) &&& (((1 : Int32) <<< (nI n &&& 31)) - 1)
def wsY (k : Nat) : List Nat := wl (bt (stY n y k)) n
end READS
theorem p_l30 {N n n0 y : Nat} (hN : 100 ≤ N) (hn : n ≤ 5) (hy : y < 10000000) {S : XS} {w r e : Nat → Int32} (hS : RS n0 S) (hH : Hold S []) :
    ∃ S2 w2 r2 e2, f_L_reads_L30 N (nI y) (nI n) N 1 0 S w r e = some (1, S2, w2, r2, e2) ∧ RS n0 S2 ∧ Hold S2 (tx (owY y) (rkY y) (wsY n y) n) ∧ ∀ v, v < n → w2 v = nI (owY y v) ∧ r2 v = nI (rkY y v) ∧ ∀ b, b < 32 → bt (e2 v) b = (decide (b < n) && bt (stY n y v) b) := by
  have hlen : ∀ k, (tx (owY y) (rkY y) (wsY n y) k).length ≤ 13 * k := tx_len (n := n) (fun k => Nat.le_trans (wl_len n) hn)
  obtain ⟨st, s1, s2⟩ := for_inv (fun m k (t : Int32 × XS × (Nat → Int32) × (Nat → Int32) × (Nat → Int32)) => f_L_reads_L30 N (nI y) (nI n) m t.1 k t.2.1 t.2.2.1 t.2.2.2.1 t.2.2.2.2) n
    (fun k t => t.1 = 1 ∧ RS n0 t.2.1 ∧ Hold t.2.1 (tx (owY y) (rkY y) (wsY n y) k) ∧ ∀ v, v < k → t.2.2.1 v = nI (owY y v) ∧ t.2.2.2.1 v = nI (rkY y v) ∧ ∀ b, b < 32 → bt (t.2.2.2.2 v) b = (decide (b < n) && bt (stY n y v) b))
    (fun t => t.1 = 1 ∧ RS n0 t.2.1 ∧ Hold t.2.1 (tx (owY y) (rkY y) (wsY n y) n) ∧ ∀ v, v < n → t.2.2.1 v = nI (owY y v) ∧ t.2.2.2.1 v = nI (rkY y v) ∧ ∀ b, b < 32 → bt (t.2.2.2.2 v) b = (decide (b < n) && bt (stY n y v) b))
    (fun m t h => ⟨t, by simp only [f_L_reads_L30]; rw [if_pos (Int32.le_refl _)], h⟩)
    (fun m k t hk h => by
      obtain ⟨is, S0, w0, r0, e0⟩ := t
      obtain ⟨i1, i2, i3, i4⟩ := h
      have i1 : is = 1 := i1
      subst i1
      have i2 : RS n0 S0 := i2
      have i3 : Hold S0 (tx (owY y) (rkY y) (wsY n y) k) := i3
      have i4 : ∀ v, v < k → w0 v = nI (owY y v) ∧ r0 v = nI (rkY y v) ∧ ∀ b, b < 32 → bt (e0 v) b = (decide (b < n) && bt (stY n y v) b) := i4
      have hl := hlen k
      have hgk := gi_ok (show k < 12 by omega) (by omega)
      have hck := nI_clamp (show k < 2 ^ 31 by omega)
      have k1 : ¬ nI n ≤ nI k := nI_ge hk (by omega)
      have z2 : 2 + nI k = nI (2 + k) := nI_add 2 k
      have z3 : 3 + nI (2 * k) = nI (3 + 2 * k) := nI_add 3 (2 * k)
      have z5 : 5 + nI (3 * k) = nI (5 + 3 * k) := nI_add 5 (3 * k)
      have y2 : 2 * nI k = nI (2 * k) := pk_mul 2 k
      have y3 : 3 * nI k = nI (3 * k) := pk_mul 3 k
      have d2 : nI y / nI (2 + k) = nI (y / (2 + k)) := pk_div (by omega) (by omega) (by omega)
      have d3 : nI y / nI (3 + 2 * k) = nI (y / (3 + 2 * k)) := pk_div (by omega) (by omega) (by omega)
      have d5 : nI y / nI (5 + 3 * k) = nI (y / (5 + 3 * k)) := pk_div (by omega) (by omega) (by omega)
      have b2 : y / (2 + k) < 2 ^ 31 := Nat.lt_of_le_of_lt (Nat.div_le_self _ _) (by omega)
      have b3 : y / (3 + 2 * k) < 2 ^ 31 := Nat.lt_of_le_of_lt (Nat.div_le_self _ _) (by omega)
      have m2 : nI (y / (2 + k)) - nI (y / (2 + k)) / 2 * 2 = nI (owY y k) := pk_rem (d := 2) b2 (by omega) (by omega)
      have m6 : nI (y / (3 + 2 * k)) - nI (y / (3 + 2 * k)) / 6 * 6 = nI (rkY y k) := pk_rem (d := 6) b3 (by omega) (by omega)
      have ow2 : owY y k < 2 := Nat.mod_lt _ (by omega)
      have rk6 : rkY y k < 6 := Nat.mod_lt _ (by omega)
      have hset : nI (y / (5 + 3 * k)) &&& (((1 : Int32) <<< (nI n &&& 31)) - 1) = stY n y k := rfl
      have hoc : (if nI (owY y k) = 1 then some (111 : Int32) else some 101) = some (nI (ocr (owY y k))) := by
        rcases (show owY y k = 0 ∨ owY y k = 1 by omega) with e | e <;> rw [e] <;> rfl
      have hocr : 32 ≤ ocr (owY y k) ∧ ocr (owY y k) ≤ 126 := by unfold ocr; split <;> omega
      have h48 : 48 + nI (rkY y k) = nI (48 + rkY y k) := nI_add 48 _
      have n2 : decide (¬ nI (2 + k) = 0) = true := decide_eq_true (nI_ne0 (by omega) (by omega))
      have n3 : decide (¬ nI (3 + 2 * k) = 0) = true := decide_eq_true (nI_ne0 (by omega) (by omega))
      have n5 : decide (¬ nI (5 + 3 * k) = 0) = true := decide_eq_true (nI_ne0 (by omega) (by omega))
      have h10 : ¬ (1 : Int32) = 0 := by decide
      have fin : ∀ S1, RS n0 S1 → Hold S1 (tx (owY y) (rkY y) (wsY n y) k ++ (sepk k ++ [ocr (owY y k), 48 + rkY y k])) →
          ∃ S2 e2, f_L_reads_L158 N (nI k) (stY n y k) N 1 (nI n - 1) S1 (upd e0 k 0) = some (1, S2, e2) ∧ RS n0 S2 ∧ Hold S2 (tx (owY y) (rkY y) (wsY n y) (k + 1)) ∧ ∀ v, v < k + 1 → upd w0 k (nI (owY y k)) v = nI (owY y v) ∧ upd r0 k (nI (rkY y k)) v = nI (rkY y v) ∧ ∀ b, b < 32 → bt (e2 v) b = (decide (b < n) && bt (stY n y v) b) := fun S1 a1 a2 => by
        have hs1 : (sepk k).length ≤ 1 := by unfold sepk; split <;> simp
        obtain ⟨S2, e2, c1, c2, c3, c4, c5⟩ := p_l158 (N := N) (k := k) (st := stY n y k) (by omega) n N _ S1 (upd e0 k 0) (by omega) (by omega) a1 a2 (by simp only [List.length_append, List.length_cons, List.length_nil]; omega)
        rw [if_pos upd_s] at c3
        refine ⟨S2, e2, c1, c2, ?_, fun v hv => ?_⟩
        · show Hold S2 (tx (owY y) (rkY y) (wsY n y) k ++ (sepk k ++ (ocr (owY y k) :: (48 + rkY y k) :: wtx 58 (wl (bt (stY n y k)) n))))
          simp only [List.append_assoc, List.cons_append, List.nil_append] at c3
          exact c3
        · by_cases ev : v = k
          · subst ev
            refine ⟨upd_s, upd_s, fun b hb => ?_⟩
            rw [c5 b hb, upd_s, b_0, Bool.false_or]
          · obtain ⟨x1, x2, x3⟩ := i4 v (by omega)
            refine ⟨by rw [upd_n ev]; exact x1, by rw [upd_n ev]; exact x2, fun b hb => ?_⟩
            rw [c4 v ev, upd_n ev]; exact x3 b hb
      by_cases ek : k = 0
      · have hk0 : nI k = 0 := by rw [ek]; rfl
        have hsp : sepk k = [] := if_pos ek
        obtain ⟨S1, t1, t2, t3⟩ := q_type (N := N) (a := ocr (owY y k)) i2 i3 (by omega) hocr.1 hocr.2
        obtain ⟨S2, t4, t5, t6⟩ := q_type (N := N) (a := 48 + rkY y k) t2 t3 (by simp only [List.length_append, List.length_cons, List.length_nil]; omega) (by omega) (by omega)
        obtain ⟨S3, e3, c1, c2, c3, c4⟩ := fin S2 t5 (by rw [hsp]; simp only [List.append_assoc, List.singleton_append, List.nil_append] at t6 ⊢; exact t6)
        refine Or.inr ⟨(1, S3, upd w0 k (nI (owY y k)), upd r0 k (nI (rkY y k)), e3), ?_, rfl, c2, c3, c4⟩
        simp only [f_L_reads_L30, hck, upd_s, y2, y3, z2, z3, z5, d2, d3, d5, m2, m6, h48, hset, nI_1]
        refine it_e k1 (chk_i n2 (chk_i hgk (chk_i n3 (chk_i hgk (chk_i n5 (chk_i hgk (bd_i (q := (S2, 1)) (it_e h10 (it_i hk0 (chk_i hgk (bd_i hoc (bd_i t1 (it_e (nI_nle (by omega) (by omega)) (chk_i hgk (bd_i t4 (it_e (nI_nle (by omega) (by simp only [List.length_append, List.length_cons, List.length_nil]; omega)) rfl))))))))) (bd_i c1 rfl))))))))
      · have hk0 : ¬ nI k = 0 := nI_ne0 (by omega) (by omega)
        have hsp : sepk k = [59] := if_neg ek
        obtain ⟨S0', t01, t02, t03⟩ := q_type (N := N) (a := 59) i2 i3 (by omega) (by omega) (by omega)
        obtain ⟨S1, t1, t2, t3⟩ := q_type (N := N) (a := ocr (owY y k)) t02 t03 (by simp only [List.length_append, List.length_cons, List.length_nil]; omega) hocr.1 hocr.2
        obtain ⟨S2, t4, t5, t6⟩ := q_type (N := N) (a := 48 + rkY y k) t2 t3 (by simp only [List.length_append, List.length_cons, List.length_nil]; omega) (by omega) (by omega)
        have t01 : x_type N 59 S0 = some (nI ((tx (owY y) (rkY y) (wsY n y) k).length + 1), S0') := t01
        obtain ⟨S3, e3, c1, c2, c3, c4⟩ := fin S2 t5 (by rw [hsp]; simp only [List.append_assoc, List.singleton_append, List.cons_append, List.nil_append] at t6 ⊢; exact t6)
        refine Or.inr ⟨(1, S3, upd w0 k (nI (owY y k)), upd r0 k (nI (rkY y k)), e3), ?_, rfl, c2, c3, c4⟩
        simp only [f_L_reads_L30, hck, upd_s, y2, y3, z2, z3, z5, d2, d3, d5, m2, m6, h48, hset, nI_1]
        refine it_e k1 (chk_i n2 (chk_i hgk (chk_i n3 (chk_i hgk (chk_i n5 (chk_i hgk (bd_i (q := (S2, 1)) (it_e h10 (it_e hk0 (bd_i t01 (it_e (nI_nle (by omega) (by omega)) (chk_i hgk (bd_i hoc (bd_i t1 (it_e (nI_nle (by omega) (by simp only [List.length_append, List.length_cons, List.length_nil]; omega)) (chk_i hgk (bd_i t4 (it_e (nI_nle (by omega) (by simp only [List.length_append, List.length_cons, List.length_nil]; omega)) rfl))))))))))) (bd_i c1 rfl)))))))))
    0 N (1, S, w, r, e) (by omega) (by omega) ⟨rfl, hS, hH, fun v hv => by omega⟩
  obtain ⟨is, S2, w2, r2, e2⟩ := st
  obtain ⟨j1, j2, j3, j4⟩ := s2
  have j1 : is = 1 := j1
  subst j1
  exact ⟨S2, w2, r2, e2, s1, j2, j3, j4⟩
theorem ok_reads {N n y : Nat} {S : XS} {g w r e : Nat → Int32} (hN : 100 ≤ N) (h : LW n S g w r e) (hy : y < 10000000) : OkA (f_L_reads N (nI y) S g w r e) := by
  obtain ⟨hn, hg, hS, hT, hq⟩ := id h
  have m5 : nI y - nI y / 5 * 5 = nI (y % 5) := pk_rem (d := 5) (by omega) (by omega) (by omega)
  have a1 : 1 + nI (y % 5) = nI (1 + y % 5) := nI_add 1 _
  have hm : 1 + y % 5 ≤ 5 ∧ 0 < 1 + y % 5 := by omega
  generalize hmm : 1 + y % 5 = m at hm a1
  obtain ⟨hm5, hm0⟩ := hm
  obtain ⟨S1, b1, b2, b3, b4⟩ := q_clear (N := N) hS
  rw [hT] at b1
  obtain ⟨S2, w2, r2, e2, c1, c2, c3, c4⟩ := p_l30 (N := N) (n := m) (y := y) (w := w) (r := r) (e := e) hN hm5 hy b2 ⟨b3, by show 0 ≤ 80; omega, fun p hp => absurd hp (Nat.not_lt_zero _)⟩
  have hf : Fit m (owY y) (rkY y) (wsY m y) := fun k hk => ⟨Nat.mod_lt _ (by omega), Nat.mod_lt _ (by omega), fun x hx => ((wl_mem m).mp hx).1, wl_nd m⟩
  have htx : tx (owY y) (rkY y) (wsY m y) m = rtx (owY y) (rkY y) (wsY m y) 0 m := by
    obtain ⟨j, rfl⟩ : ∃ j, m = j + 1 := ⟨m - 1, by omega⟩
    have := tx_rtx (owY y) (rkY y) (wsY (j + 1) y) j 0
    rw [show 0 + j + 1 = j + 1 from by omega] at this
    rw [← this]; rfl
  obtain ⟨S3, d1, d2, d3⟩ := q_fault (N := N) hN c2 c3 hm0 (by omega) hf htx
  obtain ⟨S4, e1, e3, e4, e5⟩ := q_read (N := N) hN d2 d3 hm0 (by omega) hf htx
  obtain ⟨S5, f1, f2, f3, f4⟩ := q_clear (N := N) e3
  rw [e4] at f1
  have hpos : 0 < (tx (owY y) (rkY y) (wsY m y) m).length := by
    obtain ⟨j, rfl⟩ : ∃ j, m = j + 1 := ⟨m - 1, by omega⟩
    show 0 < (tx (owY y) (rkY y) (wsY (j + 1) y) j ++ (sepk j ++ (ocr (owY y j) :: (48 + rkY y j) :: wtx 58 (wsY (j + 1) y j)))).length
    simp only [List.length_append, List.length_cons]
    omega
  have hle := d3.2.1
  unfold f_L_reads
  simp only [m5, a1]
  refine ok_b b1 (ok_b (q := 1) (it_e (show ¬ (0 : Int32) < 0 by decide) rfl) (ok_c g01 (ok_b c1 (ok_e (show ¬ (1 : Int32) = 0 by decide) (ok_b d1 (ok_i rfl (ok_b e1 (ok_i rfl (ok_b f1 (ok_e (nI_nle hpos (by omega)) (ok_r (n := m) ?_)))))))))))
  refine ⟨by omega, upd_s, f2, f3, fun v hv => ?_⟩
  show w2 v = S5.2.2 0 v ∧ r2 v = S5.2.2 1 v ∧ e2 v = S5.2.2 2 v
  rw [f4]
  obtain ⟨p1, p2, p3⟩ := e5 v hv
  obtain ⟨x1, x2, x3⟩ := c4 v hv
  refine ⟨by rw [p1, x1], by rw [p2, x2], ?_⟩
  apply b_ext
  intro b hb
  have h1 := p3 b hb
  rw [x3 b hb]
  cases h2 : bt (S4.2.2 2 v) b with
  | true =>
    obtain ⟨q1, q2⟩ := (wl_mem m).mp (h1.mp h2)
    rw [decide_eq_true q1, q2]; rfl
  | false =>
    apply bf
    intro h3
    obtain ⟨q1, q2⟩ := bat2 h3
    have := h1.mpr ((wl_mem m).mpr ⟨of_decide_eq_true q1, q2⟩)
    rw [h2] at this; cases this
