/-! the text that the law types -/
def Hold (S : XS) (l : List Nat) : Prop := S.2.1 13 = nI l.length ∧ l.length ≤ 80 ∧ ∀ p, p < l.length → 32 ≤ l.getD p 0 ∧ l.getD p 0 ≤ 126 ∧ S.2.2 24 p = nI (l.getD p 0)
theorem Hold.tx {S : XS} {l : List Nat} (h : Hold S l) : TX (fun p => l.getD p 0) (S.2.2 24) l.length := by
  refine ⟨h.2.1, h.2.2, fun p hp => ?_⟩
  show l.getD p 0 = 0
  rw [List.getD_eq_getElem?_getD, List.getElem?_eq_none hp]; rfl
theorem getD_snoc {l : List Nat} {a p : Nat} : (l ++ [a]).getD p 0 = if p = l.length then a else l.getD p 0 := by
  rw [List.getD_eq_getElem?_getD, List.getD_eq_getElem?_getD]
  by_cases h : p < l.length
  · rw [List.getElem?_append_left h, if_neg (by omega)]
  · rw [List.getElem?_append_right (by omega)]
    by_cases e : p = l.length
    · rw [if_pos e, e, Nat.sub_self]; rfl
    · rw [if_neg e, List.getElem?_eq_none (by simp; omega), List.getElem?_eq_none (by omega)]
theorem q_type {N n a : Nat} {S : XS} {l : List Nat} (h : RS n S) (hH : Hold S l) (hl : l.length < 80) (h1 : 32 ≤ a) (h2 : a ≤ 126) : ∃ S2, x_type N (nI a) S = some (nI (l.length + 1), S2) ∧ RS n S2 ∧ Hold S2 (l ++ [a]) := by
  obtain ⟨hz, V, hw, hc, hh⟩ := h
  obtain ⟨g1, g2, g3⟩ := hH
  have b1 : ¬ nI a < 32 := nI_nlt (b := 32) h1 (by omega)
  have b2 : nI a ≤ 126 := nI_le (b := 126) h2 (by omega)
  have hlt : nI l.length < 80 := nI_lt (b := 80) (by omega) (by omega)
  have hnl : ¬ (80 : Int32) ≤ nI l.length := nI_ge (b := 80) (by omega) (by omega)
  have hg := gi_ok (show l.length < 80 by omega) (by omega)
  have hch : ((Int32.toUInt32 (nI a)) % 65536).toInt32 = nI a := by
    have := pk_char (nI a)
    rw [this, pk_tn (by omega), Nat.mod_eq_of_lt (by omega)]
  have hvn : vp_nar .char (nI a) = nI a := by
    rw [vp_nar_char, ← hch]
    have := pk_vc (nI a)
    rw [hch] at this ⊢
    rw [vp_nar_char] at this
    exact this
  refine mk1 (by simp only [x_type, f_X3_type, g1, if_neg b1, if_pos b2, if_pos hlt, f_X2_append, if_neg hnl, chk_t hg, hch, hvn, nI_clamp (show l.length < 2 ^ 31 by omega), nI_1, Option.bind_some]; rfl) ?_
  refine ⟨⟨hz, V, hw, hc, hh⟩, ?_, ?_, fun p hp => ?_⟩
  · rw [List.length_append]; rfl
  · rw [List.length_append]; exact hl
  · rw [List.length_append] at hp
    have hp : p < l.length + 1 := hp
    rw [getD_snoc]
    show 32 ≤ (if p = l.length then a else l.getD p 0) ∧ (if p = l.length then a else l.getD p 0) ≤ 126 ∧ upd (S.2.2 24) l.length (nI a) p = nI (if p = l.length then a else l.getD p 0)
    by_cases e : p = l.length
    · rw [if_pos e, e, upd_s]; exact ⟨h1, h2, rfl⟩
    · rw [if_neg e, upd_n e]; exact g3 p (by omega)
theorem q_clear {N n : Nat} {S : XS} (h : RS n S) : ∃ S2, x_clearText N S = some (S.2.1 13, S2) ∧ RS n S2 ∧ S2.2.1 13 = 0 ∧ S2.2.2 = S.2.2 := by
  obtain ⟨hz, V, hw, hc, hh⟩ := h
  refine mk1 (by simp only [x_clearText, f_X3_clearText, Option.bind_some]; rfl) ?_
  exact ⟨⟨hz, V, hw, hc, hh⟩, rfl, rfl⟩
theorem q_fault {N m n : Nat} {S : XS} {l : List Nat} {ow rk : Nat → Nat} {ws : Nat → List Nat} (hN : 100 ≤ N) (h : RS m S) (hH : Hold S l) (hn0 : 0 < n) (hn : n ≤ 10) (hf : Fit n ow rk ws) (hl : l = rtx ow rk ws 0 n) : ∃ S2, x_fault N 0 S = some (-4, S2) ∧ RS m S2 ∧ Hold S2 l := by
  obtain ⟨hz, V, hw, hc, hh⟩ := h
  obtain ⟨o', r', w', a2, wn', wi', wc', g1, g2⟩ := p_isField (N := N) (o := S.2.2 21) (r := S.2.2 22) (w := S.2.2 23) (z := S.2.1 7) (fi := S.2.1 14) (fr := S.2.1 15) (at' := S.2.1 16) (wn := S.2.2 25) (wi := S.2.2 26) (wc := S.2.1 17) hN hH.tx hn0 hn hf hl
  have hH2 := hH
  obtain ⟨k1, k2, k3⟩ := hH
  rw [← k1] at g1
  refine mk1 (by
    unfold x_fault f_X3_fault
    exact bd_i (it_e (show ¬ (0 : Int32) < 0 by decide) (it_i (show (0 : Int32) ≤ 1 by decide) (bd_i g1 (it_e (show ¬ (1 : Int32) = 0 by decide) rfl)))) rfl) ?_
  exact ⟨⟨hz, V, hw, hc, hh⟩, k1, k2, k3⟩
theorem q_read {N m n : Nat} {S : XS} {l : List Nat} {ow rk : Nat → Nat} {ws : Nat → List Nat} (hN : 100 ≤ N) (h : RS m S) (hH : Hold S l) (hn0 : 0 < n) (hn : n ≤ 10) (hf : Fit n ow rk ws) (hl : l = rtx ow rk ws 0 n) : ∃ S2, x_read N S = some (nI n, S2) ∧ RS n S2 ∧ S2.2.1 13 = nI l.length ∧ ∀ v, v < n → PT ow rk ws (S2.2.2 0) (S2.2.2 1) (S2.2.2 2) v := by
  obtain ⟨hz, V, hw, hc, hh, h4, hs⟩ := h
  obtain ⟨o', r', w', a2, wn', wi', wc', g1, g2⟩ := p_isField (N := N) (o := S.2.2 21) (r := S.2.2 22) (w := S.2.2 23) (z := S.2.1 7) (fi := S.2.1 14) (fr := S.2.1 15) (at' := S.2.1 16) (wn := S.2.2 25) (wi := S.2.2 26) (wc := S.2.1 17) hN hH.tx hn0 hn hf hl
  obtain ⟨k1, k2, k3⟩ := hH
  rw [← k1] at g1
  obtain ⟨ah', h', e0, e1, e2, e3, f0, f1, f2, f3, g0, gg1, gg2, gg3, i0, i1, i2, i3, h4', hrec⟩ := p_record (N := N) (ah := S.1) (o := S.2.2 0) (r := S.2.2 1) (w := S.2.2 2) (a0 := S.2.2 3) (a1 := S.2.2 4) (a2 := S.2.2 5) (a3 := S.2.1 1) (b0 := S.2.2 6) (b1 := S.2.2 7) (b2 := S.2.2 8) (b3 := S.2.1 2) (c0 := S.2.2 9) (c1 := S.2.2 10) (c2 := S.2.2 11) (c3 := S.2.1 3) (d0 := S.2.2 12) (d1 := S.2.2 13) (d2 := S.2.2 14) (d3 := S.2.1 4) (wk := S.2.1 10) (ck := S.2.1 12) (by omega) V.1 h4
  rw [← hz, ← hs] at hrec
  obtain ⟨o2, r2, w2, y1, y2⟩ := p_copyFrom (N := N) (n := n) (o := o') (r := r') (w := w') (o2 := S.2.2 0) (r2 := S.2.2 1) (w2 := S.2.2 2) (z := S.2.1 0) (by omega) (by omega)
  have hpt : ∀ v, v < n → PT ow rk ws o2 r2 w2 v := fun v hv => by
    obtain ⟨a, b, c⟩ := y2 v hv
    obtain ⟨p1, p2, p3⟩ := g2 v hv
    exact ⟨by rw [a]; exact p1, by rw [b]; exact p2, by rw [c]; exact p3⟩
  refine mk1 (by
    unfold x_read f_X3_read
    exact bd_i (bd_i g1 (it_e (show ¬ (1 : Int32) = 0 by decide) (bd_i hrec (bd_i y1 rfl)))) rfl) ?_
  refine ⟨⟨rfl, ⟨by omega, fun u hu => ?_⟩, fun h => absurd rfl h, fun h => absurd rfl h, h', h4', rfl⟩, k1, hpt⟩
  obtain ⟨p1, p2, p3⟩ := hpt u hu
  obtain ⟨q1, q2, q3, q4⟩ := hf u hu
  refine ⟨?_, rkN_nI p2 q2, fun b hb1 hb2 => bf (fun hb => ?_)⟩
  · show o2 u = 0 ∨ o2 u = 1
    rw [p1]
    rcases (show ow u = 0 ∨ ow u = 1 by omega) with e | e
    · rw [e]; exact Or.inl rfl
    · rw [e]; exact Or.inr rfl
  · have := q3 b ((p3 b hb2).mp hb)
    omega
/-- the places of a set, downwards -/
def wl (f : Nat → Bool) : Nat → List Nat
  | 0 => []
  | m + 1 => if f m = true then m :: wl f m else wl f m
theorem wl_mem {f : Nat → Bool} {b : Nat} (m : Nat) : b ∈ wl f m ↔ (b < m ∧ f b = true) := by
  induction m with
  | zero => simp [wl]
  | succ m ih =>
    show b ∈ (if f m = true then m :: wl f m else wl f m) ↔ _
    by_cases e : f m = true
    · rw [if_pos e, List.mem_cons, ih]
      constructor
      · rintro (rfl | ⟨h1, h2⟩)
        · exact ⟨by omega, e⟩
        · exact ⟨by omega, h2⟩
      · rintro ⟨h1, h2⟩
        by_cases eb : b = m
        · exact Or.inl eb
        · exact Or.inr ⟨by omega, h2⟩
    · rw [if_neg e, ih]
      constructor
      · rintro ⟨h1, h2⟩; exact ⟨by omega, h2⟩
      · rintro ⟨h1, h2⟩
        refine ⟨?_, h2⟩
        by_cases eb : b = m
        · rw [eb] at h2; exact absurd h2 e
        · omega
theorem wl_nd {f : Nat → Bool} (m : Nat) : (wl f m).Nodup := by
  induction m with
  | zero => exact List.nodup_nil
  | succ m ih =>
    show (if f m = true then m :: wl f m else wl f m).Nodup
    by_cases e : f m = true
    · rw [if_pos e]
      exact List.nodup_cons.mpr ⟨fun h => by have := ((wl_mem m).mp h).1; omega, ih⟩
    · rw [if_neg e]; exact ih
theorem wl_len {f : Nat → Bool} (m : Nat) : (wl f m).length ≤ m := by
  induction m with
  | zero => exact Nat.le_refl 0
  | succ m ih =>
    show (if f m = true then m :: wl f m else wl f m).length ≤ m + 1
    by_cases e : f m = true
    · rw [if_pos e, List.length_cons]; omega
    · rw [if_neg e]; omega
theorem p_l158 {N n0 k : Nat} {st : Int32} (hk : k < 12) : ∀ i m l S e, i < 12 → i < m → RS n0 S → Hold S l → l.length + 2 * i ≤ 80 →
    ∃ S2 e2, f_L_reads_L158 N (nI k) st m 1 (nI i - 1) S e = some (1, S2, e2) ∧ RS n0 S2 ∧ Hold S2 (l ++ wtx (if e k = 0 then 58 else 44) (wl (bt st) i)) ∧ (∀ v, v ≠ k → e2 v = e v) ∧ ∀ b, b < 32 → bt (e2 k) b = (bt (e k) b || (decide (b < i) && bt st b)) := by
  have hgk := gi_ok hk (by omega)
  have hck := nI_clamp (show k < 2 ^ 31 by omega)
  intro i
  induction i with
  | zero =>
    intro m l S e hi hm hS hH hl
    obtain ⟨m, rfl⟩ : ∃ m', m = m' + 1 := ⟨m - 1, by omega⟩
    refine ⟨S, e, ?_, hS, by show Hold S (l ++ []); rw [List.append_nil]; exact hH, fun _ _ => rfl, fun b hb => by simp⟩
    rw [f_L_reads_L158, if_pos (show nI 0 - 1 < 0 by decide)]
  | succ i ih =>
    intro m l S e hi hm hS hH hl
    obtain ⟨m, rfl⟩ : ∃ m', m = m' + 1 := ⟨m - 1, by omega⟩
    have hm1 : nI i + (-1) = nI i - 1 := (Int32.sub_eq_add_neg _ _).symm
    by_cases hb : bt st i = true
    · have hsep : ∃ s, s < 60 ∧ 40 < s ∧ (if e k = 0 then (58 : Nat) else 44) = s ∧ (if e k = 0 then some (58 : Int32) else some 44) = some (nI s) := by
        by_cases e0 : e k = 0
        · exact ⟨58, by omega, by omega, if_pos e0, by rw [if_pos e0]; rfl⟩
        · exact ⟨44, by omega, by omega, if_neg e0, by rw [if_neg e0]; rfl⟩
      obtain ⟨s, s1, s2, s3, s4⟩ := hsep
      obtain ⟨S1, t1, t2, t3⟩ := q_type (N := N) (a := s) hS hH (by omega) (by omega) (by omega)
      obtain ⟨S2, t4, t5, t6⟩ := q_type (N := N) (a := 48 + i) t2 t3 (by rw [List.length_append]; show l.length + 1 < 80; omega) (by omega) (by omega)
      have h48 : 48 + nI i = nI (48 + i) := nI_add 48 i
      have he1 : ¬ upd e k (e k ||| bit i) k = 0 := by
        rw [upd_s]
        intro h0
        have := bt_zero.mp h0 i (by omega)
        rw [b_or, show bt (bit i) i = _ from bt_bit (by omega) (by omega)] at this
        simp at this
      obtain ⟨S3, e3, u1, u2, u3, u4, u5⟩ := ih m (l ++ [s] ++ [48 + i]) S2 (upd e k (e k ||| bit i)) (by omega) (by omega) t5 t6 (by simp; omega)
      rw [if_neg he1] at u3
      refine ⟨S3, e3, ?_, u2, ?_, fun v hv => by rw [u4 v hv, upd_n hv], fun b hb2 => ?_⟩
      · rw [f_L_reads_L158, nI_pred, if_neg (nI_pos (by omega)), bt_get (show i < 32 by omega), hck, h48]
        refine bd_i (q := (1, S2, upd e k (e k ||| bit i))) (it_i (by rw [if_pos hb]) (bd_i (q := (S2, 1)) (it_e (show ¬ (1 : Int32) = 0 by decide) (chk_i hgk (bd_i s4 (bd_i t1 (it_e (nI_nle (by omega) (by omega)) (bd_i t4 (it_e (nI_nle (by omega) (by rw [List.length_append]; show l.length + 1 + 1 < 2 ^ 31; omega)) rfl))))))) (chk_i hgk (chk_i hgk rfl)))) ?_
        show f_L_reads_L158 N (nI k) st m 1 (nI i + (-1)) S2 (upd e k (e k ||| bit i)) = _
        rw [hm1]; exact u1
      · have ew : wl (bt st) (i + 1) = i :: wl (bt st) i := if_pos hb
        rw [ew, s3]
        show Hold S3 (l ++ s :: (48 + i) :: wtx 44 (wl (bt st) i))
        simp only [List.append_assoc, List.singleton_append] at u3
        exact u3
      · rw [u5 b hb2, upd_s, b_or, show bt (bit i) b = _ from bt_bit (by omega) hb2]
        by_cases eb : b = i
        · subst eb; simp [hb]
        · have : decide (b < i + 1) = decide (b < i) := by simp; omega
          rw [this]; simp [eb]
    · obtain ⟨S3, e3, u1, u2, u3, u4, u5⟩ := ih m l S e (by omega) (by omega) hS hH (by omega)
      refine ⟨S3, e3, ?_, u2, ?_, u4, fun b hb2 => ?_⟩
      · rw [f_L_reads_L158, nI_pred, if_neg (nI_pos (by omega)), bt_get (show i < 32 by omega), hck]
        refine bd_i (q := (1, S, e)) (it_e (by rw [if_neg hb]; decide) rfl) ?_
        show f_L_reads_L158 N (nI k) st m 1 (nI i + (-1)) S e = _
        rw [hm1]; exact u1
      · have ew : wl (bt st) (i + 1) = wl (bt st) i := if_neg hb
        rw [ew]; exact u3
      · rw [u5 b hb2]
        by_cases eb : b = i
        · subst eb; simp [bf hb]
        · have : decide (b < i + 1) = decide (b < i) := by simp; omega
          rw [this]
