/-! proves -/
def fwf (mn pl : Int32) (o w ch : Nat → Int32) (k : Nat) : Int32 := if bt mn k = true ∧ o k = pl ∧ ¬ ch k = -4 then (1 : Int32) <<< (ch k &&& 31) else w k
def anb (f : Nat → Bool) : Nat → Bool
  | 0 => false
  | k + 1 => anb f k || f k
theorem anb_t {f : Nat → Bool} {k n : Nat} (hk : k < n) (h : f k = true) : anb f n = true := by
  induction n with
  | zero => omega
  | succ n ih =>
    simp only [anb]
    by_cases e : k = n
    · rw [← e, h, Bool.or_true]
    · rw [ih (by omega), Bool.true_or]
def bdf (mn : Int32) (f : Nat → Int32) (k : Nat) : Bool := bt mn k && decide (¬ (f k &&& (mn ^^^ (-1))) = 0)
def Cr (n : Nat) (ch : Nat → Int32) : Prop := ∀ v, v < n → ch v = -4 ∨ ∃ u, u < n ∧ ch v = nI u
theorem has_no {N n : Nat} : f_X0_has N (-4) (nI n) = some 0 := by
  unfold f_X0_has
  rw [if_pos (by decide)]
theorem has_ok {N n u : Nat} (hn : n ≤ 12) (hu : u < n) : f_X0_has N (nI u) (nI n) = some 1 := by
  unfold f_X0_has
  rw [if_neg (nI_pos (by omega)), if_neg (nI_ge hu (by omega)), if_neg (show ¬ (12 : Int32) ≤ nI u from nI_ge (b := 12) (by omega) (by omega))]
theorem nI_m4 {u : Nat} (hu : u < 13) : ¬ nI u = -4 := by
  intro h
  have : (-4 : Int32).toInt = -4 := by decide
  have h2 := congrArg Int32.toInt h
  rw [nI_toInt (by omega), this] at h2
  omega
theorem p_pr32 {N n : Nat} {mn pl : Int32} {o w ch tw : Nat → Int32} (hN : 13 ≤ N) (hn : n ≤ 12) (hch : Cr n ch) (htw : ∀ v, v < n → tw v = w v) : ∃ tw', f_X3_proves_L32 N pl mn o (nI n) ch N 0 tw = some tw' ∧ ∀ v, v < n → tw' v = fwf mn pl o w ch v := by
  obtain ⟨y, e1, e2⟩ := for_inv (fun m j t => f_X3_proves_L32 N pl mn o (nI n) ch m j t) n (fun k (t : Nat → Int32) => ∀ v, v < n → t v = if v < k then fwf mn pl o w ch v else w v) (fun t => ∀ v, v < n → t v = fwf mn pl o w ch v)
    (fun m t h => ⟨t, by simp only [f_X3_proves_L32]; rw [if_pos (Int32.le_refl _)], fun v hv => by rw [h v hv, if_pos hv]⟩)
    (fun m k t hk h => by
      obtain ⟨k1, k2, k3, k4⟩ := idx hk hn
      have keep : fwf mn pl o w ch k = w k → ∀ v, v < n → t v = if v < k + 1 then fwf mn pl o w ch v else w v := fun hkk v hv => by
        rw [h v hv]
        by_cases e : v = k
        · rw [e, if_neg (by omega), if_pos (by omega), hkk]
        · by_cases e2 : v < k
          · rw [if_pos e2, if_pos (by omega)]
          · rw [if_neg e2, if_neg (by omega)]
      have k5 := f_contains (N := N) (x := mn) (k := k) (by omega)
      by_cases eb : bt mn k = true
      · rw [if_pos eb] at k5
        by_cases eo : o k = pl
        · rcases hch k hk with ec | ⟨u, hu, ec⟩
          · refine Or.inr ⟨t, by simp only [f_X3_proves_L32, if_neg k1, k5, Option.bind_some, i10, chk_t k2, k3, if_pos eo, ec, has_no, if_true, k4], keep ?_⟩
            unfold fwf
            rw [if_neg (fun h => h.2.2 ec)]
          · refine Or.inr ⟨upd t k (1 <<< (nI u &&& 31)), by simp only [f_X3_proves_L32, if_neg k1, k5, Option.bind_some, i10, chk_t k2, k3, if_pos eo, ec, has_ok hn hu, if_true, k4], fun v hv => ?_⟩
            by_cases e : v = k
            · rw [e, upd_s, if_pos (by omega)]
              unfold fwf
              rw [if_pos ⟨eb, eo, by rw [ec]; exact nI_m4 (by omega)⟩, ec]
            · rw [upd_n e, h v hv]
              by_cases e2 : v < k
              · rw [if_pos e2, if_pos (by omega)]
              · rw [if_neg e2, if_neg (by omega)]
        · refine Or.inr ⟨t, by simp only [f_X3_proves_L32, if_neg k1, k5, Option.bind_some, i10, chk_t k2, k3, if_neg eo, k4], keep ?_⟩
          unfold fwf
          rw [if_neg (fun h => eo h.2.1)]
      · rw [if_neg eb] at k5
        refine Or.inr ⟨t, by simp only [f_X3_proves_L32, if_neg k1, k5, Option.bind_some, if_true, k4], keep ?_⟩
        unfold fwf
        rw [if_neg (fun h => eb h.1)])
    0 N tw (by omega) (by omega) (fun v hv => by rw [htw v hv, if_neg (by omega)])
  exact ⟨y, e1, e2⟩
theorem anb_congr {f g : Nat → Bool} {n : Nat} (h : ∀ i, i < n → f i = g i) : anb f n = anb g n := by
  induction n with
  | zero => rfl
  | succ n ih => simp only [anb]; rw [ih (fun i hi => h i (by omega)), h n (by omega)]
theorem p_pr105 {N n : Nat} {mn tz wk wv ck : Int32} {to tr tw ch : Nat → Int32} (hN : 13 ≤ N) (hn : n ≤ 12) : f_X3_proves_L105 N mn (nI n) to tr tw tz wk wv ck ch N 0 = some (if anb (bdf mn tw) n = true then .inl (0, to, tr, tw, tz, wk, wv, ck, ch) else .inr ()) := by
  obtain ⟨y, e1, e2⟩ := for_inv (fun m j (_ : Unit) => f_X3_proves_L105 N mn (nI n) to tr tw tz wk wv ck ch m j) n (fun k _ => anb (bdf mn tw) k = false) (fun y => y = if anb (bdf mn tw) n = true then .inl (0, to, tr, tw, tz, wk, wv, ck, ch) else .inr ())
    (fun m t h => ⟨.inr (), by simp only [f_X3_proves_L105]; rw [if_pos (Int32.le_refl _)], by rw [h]; rfl⟩)
    (fun m k t hk h => by
      obtain ⟨k1, k2, k3, k4⟩ := idx hk hn
      have k5 := f_contains (N := N) (x := mn) (k := k) (by omega)
      by_cases eb : bt mn k = true
      · rw [if_pos eb] at k5
        by_cases e0 : (tw k &&& (mn ^^^ (-1))) = 0
        · refine Or.inr ⟨(), by simp only [f_X3_proves_L105, if_neg k1, k5, Option.bind_some, i10, chk_t k2, k3, if_pos e0, sm, k4], ?_⟩
          simp only [anb, h, bdf, decide_eq_false (show ¬ ¬ (tw k &&& (mn ^^^ (-1))) = 0 from fun h => h e0), Bool.and_false, Bool.or_false]
        · refine Or.inl ⟨.inl (0, to, tr, tw, tz, wk, wv, ck, ch), by simp only [f_X3_proves_L105, if_neg k1, k5, Option.bind_some, i10, chk_t k2, k3, if_neg e0, sm], ?_⟩
          rw [if_pos (anb_t hk (by unfold bdf; rw [eb, decide_eq_true e0]; rfl))]
      · rw [if_neg eb] at k5
        refine Or.inr ⟨(), by simp only [f_X3_proves_L105, if_neg k1, k5, Option.bind_some, if_true, sm, k4], ?_⟩
        simp only [anb, h, bdf, bf eb, Bool.false_and, Bool.or_false])
    0 N () (by omega) (by omega) rfl
  rw [← e2]
  exact e1
theorem p_pr37 {N n : Nat} {mn pl : Int32} {o r w ch s : Nat → Int32} (hN : 13 ≤ N) (hn : n ≤ 12) (hch : Cr n ch) (hF : FE n o r w s) : ∃ s', f_X4_proves_L37 N pl mn ch N 1 0 s = some (if anb (bdf mn (fwf mn pl o w ch)) n = true then 0 else 1, s') ∧ FE n o r (fwf mn pl o w ch) s' := by
  obtain ⟨y, e1, e2⟩ := for_inv (fun m j (t : Int32 × (Nat → Int32)) => f_X4_proves_L37 N pl mn ch m t.1 j t.2) n (fun k t => t.1 = (if anb (bdf mn (fwf mn pl o w ch)) k = true then 0 else 1) ∧ FE n o r (fun v => if v < k then fwf mn pl o w ch v else w v) t.2) (fun t => t.1 = (if anb (bdf mn (fwf mn pl o w ch)) n = true then 0 else 1) ∧ FE n o r (fwf mn pl o w ch) t.2)
    (fun m t h => ⟨t, by simp only [f_X4_proves_L37, chk_t g037, c0, h.2.1]; rw [if_pos (Int32.le_refl _)], h.1, FE_congr h.2 (fun v hv => (if_pos hv).symm)⟩)
    (fun m k t hk h => by
      obtain ⟨fl, sj⟩ := t
      obtain ⟨h1, h2⟩ := h
      have h1 : fl = (if anb (bdf mn (fwf mn pl o w ch)) k = true then 0 else 1) := h1
      have h2 : FE n o r (fun v => if v < k then fwf mn pl o w ch v else w v) sj := h2
      obtain ⟨k1, k2, k3, k4⟩ := idx hk hn
      obtain ⟨z1, -, z3, s1, -, s3⟩ := idm h2 hk hn
      have s3 : sj (Int32.toNatClampNeg (nI (25 + k))) = w k := s3.trans (if_neg (by omega))
      have kk : Int32.toNatClampNeg (nI (25 + k)) = 25 + k := nI_clamp (by omega)
      rw [kk] at s3
      have k5 := bt_get (x := mn) (k := k) (by omega)
      have hfin : ∀ x, x = fwf mn pl o w ch k → FE n o r (fun v => if v < k + 1 then fwf mn pl o w ch v else w v) (upd sj (25 + k) x) := fun x hx => by
        refine FE_congr (FE_set (t := fun v => if v < k then fwf mn pl o w ch v else w v) (x := x) hn hk h2.1 (fun v hv => ⟨(h2.2 v hv).1, (h2.2 v hv).2.1, fun _ => (h2.2 v hv).2.2⟩)) (fun v hv => ?_)
        by_cases e : v = k
        · rw [e, upd_s, if_pos (by omega), hx]
        · rw [upd_n e]
          show _ = if v < k then _ else _
          by_cases e2 : v < k
          · rw [if_pos e2, if_pos (by omega)]
          · rw [if_neg e2, if_neg (by omega)]
      have hbad : ∀ b : Bool, bdf mn (fwf mn pl o w ch) k = b → (if anb (bdf mn (fwf mn pl o w ch)) (k + 1) = true then (0 : Int32) else 1) = if fl = 0 then 0 else if b = true then 0 else 1 := fun b hb => by
        rw [show anb (bdf mn (fwf mn pl o w ch)) (k + 1) = (anb (bdf mn (fwf mn pl o w ch)) k || b) from by rw [← hb]; rfl, h1]
        cases anb (bdf mn (fwf mn pl o w ch)) k <;> cases b <;> rfl
      refine Or.inr ⟨(if anb (bdf mn (fwf mn pl o w ch)) (k + 1) = true then 0 else 1, upd sj (25 + k) (fwf mn pl o w ch k)), ?_, rfl, hfin _ rfl⟩
      by_cases eb : bt mn k = true
      · rw [if_pos eb] at k5
        have tail : ∀ x, x = fwf mn pl o w ch k → Option.bind (α := Int32) (if fl = 0 then (some (0)) else (if (1 : Int32) = 0 then (some (1)) else (chk (gi (nI (25 + k)) 37) (if (x &&& (mn ^^^ (-1))) = 0 then (some (1)) else (some (0)))))) (fun q35 => f_X4_proves_L37 N pl mn ch m q35 (nI (k + 1)) (upd sj (25 + k) x)) = f_X4_proves_L37 N pl mn ch m (if anb (bdf mn (fwf mn pl o w ch)) (k + 1) = true then 0 else 1) (nI (k + 1)) (upd sj (25 + k) (fwf mn pl o w ch k)) := fun x hx => by
          rw [hbad _ rfl, hx]
          unfold bdf
          rw [eb]
          by_cases ef : fl = 0
          · simp only [if_pos ef, Option.bind_some]
          · by_cases e0 : (fwf mn pl o w ch k &&& (mn ^^^ (-1))) = 0
            · simp only [if_neg ef, i10, chk_t z3, if_pos e0, Option.bind_some, decide_eq_false (show ¬ ¬ (fwf mn pl o w ch k &&& (mn ^^^ (-1))) = 0 from fun h => h e0), Bool.and_false, if_neg (show ¬ false = true by decide)]
            · simp only [if_neg ef, i10, chk_t z3, if_neg e0, Option.bind_some, decide_eq_true (show ¬ (fwf mn pl o w ch k &&& (mn ^^^ (-1))) = 0 from e0), Bool.and_true, if_true]
        by_cases eo : o k = pl
        · rcases hch k hk with ec | ⟨u, hu, ec⟩
          · have hx : w k = fwf mn pl o w ch k := by unfold fwf; rw [if_neg (fun h => h.2.2 ec)]
            have := tail (w k) hx
            simp only [f_X4_proves_L37, chk_t g037, c0, h2.1, if_neg k1, k5, if_true, Option.bind_some, i10, m1, chk_t z1, s1, if_pos eo, chk_t k2, k3, ec, if_pos (show (-4 : Int32) < 0 by decide), m25, chk_t z3, s3, kk, upd_s, k4]
            simp only [i10, chk_t z3] at this
            exact this
          · have hx : (1 : Int32) <<< (nI u &&& 31) = fwf mn pl o w ch k := by unfold fwf; rw [if_pos ⟨eb, eo, by rw [ec]; exact nI_m4 (by omega)⟩, ec]
            have := tail _ hx
            simp only [f_X4_proves_L37, chk_t g037, c0, h2.1, if_neg k1, k5, if_true, Option.bind_some, i10, m1, chk_t z1, s1, if_pos eo, chk_t k2, k3, ec, if_neg (show ¬ nI u < 0 from nI_pos (by omega)), m25, chk_t z3, kk, upd_s, k4]
            simp only [i10, chk_t z3] at this
            exact this
        · have hx : w k = fwf mn pl o w ch k := by unfold fwf; rw [if_neg (fun h => eo h.2.1)]
          have := tail (w k) hx
          simp only [f_X4_proves_L37, chk_t g037, c0, h2.1, if_neg k1, k5, if_true, Option.bind_some, i10, m1, chk_t z1, s1, if_neg eo, m25, chk_t z3, s3, kk, upd_s, k4]
          simp only [i10, chk_t z3] at this
          exact this
      · rw [if_neg eb] at k5
        have hx : w k = fwf mn pl o w ch k := by unfold fwf; rw [if_neg (fun h => eb h.1)]
        have hb : bdf mn (fwf mn pl o w ch) k = false := by unfold bdf; rw [bf eb]; rfl
        rw [hbad _ hb, ← hx]
        by_cases ef : fl = 0
        · simp only [f_X4_proves_L37, chk_t g037, c0, h2.1, if_neg k1, k5, if_neg (show ¬ (0 : Int32) = 1 by decide), Option.bind_some, if_true, m25, chk_t z3, s3, kk, k4, if_pos ef]
        · simp only [f_X4_proves_L37, chk_t g037, c0, h2.1, if_neg k1, k5, if_neg (show ¬ (0 : Int32) = 1 by decide), Option.bind_some, if_true, m25, chk_t z3, s3, kk, k4, if_neg ef, if_neg (show ¬ false = true by decide)])
    0 N (1, s) (by omega) (by omega) ⟨rfl, FE_congr hF (fun v hv => if_neg (by omega))⟩
  obtain ⟨fl, s'⟩ := y
  obtain ⟨g1, g2⟩ := e2
  have g1 : fl = _ := g1
  refine ⟨s', ?_, g2⟩
  rw [← g1]
  exact e1
theorem p_pr204 {N n : Nat} {o r t w ws s : Nat → Int32} (hN : 13 ≤ N) (hn : n ≤ 12) (hs : FE n o r t s) (hws : ∀ v, v < n → ws v = w v) : ∃ s', f_X4_proves_L204 N ws N 0 s = some s' ∧ FE n o r w s' := by
  obtain ⟨y, e1, e2⟩ := for_inv (fun m x st => f_X4_proves_L204 N ws m x st) n
    (fun k (st : Nat → Int32) => st 0 = nI n ∧ ∀ v, v < n → st (1 + v) = o v ∧ st (13 + v) = r v ∧ (v < k → st (25 + v) = w v)) (fun st => FE n o r w st)
    (fun m st h => ⟨st, by simp only [f_X4_proves_L204, chk_t g037, c0, h.1]; rw [if_pos (Int32.le_refl _)], h.1, fun v hv => ⟨(h.2 v hv).1, (h.2 v hv).2.1, (h.2 v hv).2.2 hv⟩⟩)
    (fun m k st hk h => Or.inr ⟨upd st (25 + k) (w k), by
      obtain ⟨k1, k2, k3, k4⟩ := idx hk hn
      simp only [f_X4_proves_L204, chk_t g037, c0, h.1, if_neg k1, chk_t k2, k3, m25, chk_t (gi_ok (show 25 + k < 37 by omega) (by omega)), nI_clamp (show 25 + k < 2 ^ 31 by omega), hws k hk, k4], (upd_n (by omega)).trans h.1, fun v hv => by
      obtain ⟨a, b, c⟩ := h.2 v hv
      refine ⟨(upd_n (by omega)).trans a, (upd_n (by omega)).trans b, fun hvk => ?_⟩
      by_cases e : v = k
      · rw [e, upd_s]
      · rw [upd_n (by omega)]; exact c (by omega)⟩)
    0 N s (by omega) (by omega) ⟨hs.1, fun v hv => ⟨(hs.2 v hv).1, (hs.2 v hv).2.1, fun h => by omega⟩⟩
  exact ⟨y, e1, e2⟩
theorem cho_cr {n : Nat} {o r w ch : Nat → Int32} (V : VF n o r w) (h : ChoS n o r w ch) : Cr n ch := fun v hv => by
  rcases cho_rng V h v hv with ⟨-, e⟩ | ⟨-, u, hu, e, -⟩
  · exact Or.inl e
  · exact Or.inr ⟨u, hu, e⟩
theorem fwf_vf {n : Nat} {mn pl : Int32} {o r w ch : Nat → Int32} (V : VF n o r w) (hch : Cr n ch) : VF n o r (fwf mn pl o w ch) := ⟨V.1, fun v hv => ⟨(V.2 v hv).1, (V.2 v hv).2.1, by
  unfold fwf
  by_cases e : bt mn v = true ∧ o v = pl ∧ ¬ ch v = -4
  · rw [if_pos e]
    rcases hch v hv with ec | ⟨u, hu, ec⟩
    · exact absurd ec e.2.2
    · rw [ec]; exact bit_sub V.1 hu
  · rw [if_neg e]; exact (V.2 v hv).2.2⟩⟩
theorem fwf_cg {n : Nat} {mn pl : Int32} {o w ch ch' : Nat → Int32} (h : ∀ v, v < n → ch v = ch' v) : ∀ v, v < n → fwf mn pl o w ch v = fwf mn pl o w ch' v := fun v hv => by
  unfold fwf; rw [h v hv]
theorem step_proves {N : Nat} (hN : 13000000 ≤ N) (x1 : Int32) {S : XS} {M : MS} (h : Rel S M) : ∃ (r : Int32) (S2 : XS) (M2 : MS), x_proves N x1 S = some (r, S2) ∧ m_proves N x1 M = some (r, M2) ∧ Rel S2 M2 := by
  obtain ⟨⟨n, hz, V, hF, hw, hc⟩, hRH, hRK, hRT⟩ := h
  have hn := V.1
  obtain ⟨R, -, hR⟩ := p_winsOf0 (N := N) (by omega) V
  have hw' : ¬ S.2.1 10 = 0 → S.2.1 11 = R := fun h => win_uniq V (hw h) hR
  rcases c_player (N := N) x1 with ⟨i, hi, rfl, a1, a2⟩ | ⟨a1, a2⟩
  · obtain ⟨o1, r1, w1, z1, wk1, wv1, ck1, ch1, e1, e5, rfl, e3, e4⟩ := p_findChoices (N := N) (ot := S.2.2 18) (rt := S.2.2 19) (wt := S.2.2 20) (z := S.2.1 6) (by omega) V hR hw' hc
    obtain ⟨s2, g, y1, y3, y5, ch2, ws2, d1, d2, d3, d4⟩ := p_chooses (meas := M.2 4) (a1 := M.1 3) (a3 := M.1 4) (a5 := M.1 5) (ch := M.2 5) (ws := M.2 6) hN V hF hR
    have f2 := p_wins0 (N := N) (z := nI n) (R := wv1)
    have f3 := p_wins1 (N := N) (z := nI n) (R := wv1)
    obtain ⟨o3, r3, w3, t1, t2⟩ := p_copyFrom (N := N) (n := n) (o := S.2.2 0) (r := S.2.2 1) (w := S.2.2 2) (o2 := o1) (r2 := r1) (w2 := w1) (z := z1) (by omega) hn
    have hcr1 := cho_cr V e4
    have hcr2 := cho_cr V d3
    have hcc := cho_uniq V e4 d3
    rcases (show i = 0 ∨ i = 1 by omega) with rfl | rfl
    · have f2 : f_X3_winsOf N (nI 0) (nI n) wv1 = _ := f2
      have fin : ∀ mn, f_X3_winsOf N (nI 0) (nI n) wv1 = some mn → mn = wv1 → ∃ (r : Int32) (S2 : XS) (M2 : MS), x_proves N (nI 0) S = some (r, S2) ∧ m_proves N (nI 0) M = some (r, M2) ∧ Rel S2 M2 := fun mn hmn hmm => by
        obtain ⟨tw, p1, p2⟩ := p_pr32 (N := N) (mn := mn) (pl := nI 0) (o := S.2.2 0) (w := S.2.2 2) (ch := ch1) (tw := w3) (by omega) hn hcr1 (fun v hv => (t2 v hv).2.2)
        have p3 := p_pr105 (N := N) (n := n) (mn := mn) (tz := nI n) (wk := wk1) (wv := wv1) (ck := ck1) (to := o3) (tr := r3) (tw := tw) (ch := ch1) (by omega) hn
        obtain ⟨s4, p4, p5⟩ := p_pr37 (N := N) (mn := mn) (pl := nI 0) (ch := ch2) (by omega) hn hcr2 d2
        have hf2 : ∀ v, v < n → tw v = fwf mn (nI 0) (S.2.2 0) (S.2.2 2) ch2 v := fun v hv => (p2 v hv).trans (fwf_cg hcc v hv)
        have Vf := fwf_vf (mn := mn) (pl := nI 0) V hcr2
        have cg : ∀ v, v < n → o3 v = S.2.2 0 v ∧ r3 v = S.2.2 1 v ∧ tw v = fwf mn (nI 0) (S.2.2 0) (S.2.2 2) ch2 v := fun v hv => ⟨(t2 v hv).1, (t2 v hv).2.1, hf2 v hv⟩
        obtain ⟨R2, q1, q2⟩ := p_winsOf0 (N := N) (by omega) (VF_cong Vf cg)
        have q3 := WinS_cong q2 (fun v hv => ⟨(cg v hv).1.symm, (cg v hv).2.1.symm, (cg v hv).2.2.symm⟩)
        obtain ⟨g2, b1, b3, b5, hwon⟩ := p_won (meas := g) (a1 := y1) (a3 := y3) (a5 := y5) hN Vf p5 q3
        obtain ⟨s5, p6, p7⟩ := p_pr204 (N := N) (w := S.2.2 2) (by omega) hn p5 d4
        have hb : anb (bdf mn tw) n = anb (bdf mn (fwf mn (nI 0) (S.2.2 0) (S.2.2 2) ch2)) n := anb_congr (fun v hv => by unfold bdf; rw [hf2 v hv])
        rw [hb] at p3
        by_cases eb : anb (bdf mn (fwf mn (nI 0) (S.2.2 0) (S.2.2 2) ch2)) n = true
        · rw [if_pos eb] at p3 p4
          refine mk_step (r := 0) (by simp only [x_proves, f_X3_proves, hz, a1, i10, Option.bind_some, e1, hmn, t1, p1, p3, sm]; rfl) (by simp only [m_proves, f_X4_proves, a2, i10, Option.bind_some, d1, if_pos (show nI 0 = 0 from rfl), ← hmm, p4, hwon, p6, if_true]; rfl) ?_
          exact ⟨⟨n, hz, V, p7, fun _ => hR, fun _ => ⟨e4, e5⟩⟩, hRH, hRK, hRT⟩
        · rw [if_neg eb] at p3 p4
          by_cases e0 : (mn &&& (R2 ^^^ (-1))) = 0
          · refine mk_step (r := 1) (by simp only [x_proves, f_X3_proves, hz, a1, i10, Option.bind_some, e1, hmn, t1, p1, p3, sm, if_pos (show nI 0 = 0 from rfl), q1, if_pos e0]; rfl) (by simp only [m_proves, f_X4_proves, a2, i10, Option.bind_some, d1, if_pos (show nI 0 = 0 from rfl), ← hmm, p4, hwon, p6, if_pos e0]; rfl) ?_
            exact ⟨⟨n, hz, V, p7, fun _ => hR, fun _ => ⟨e4, e5⟩⟩, hRH, hRK, hRT⟩
          · refine mk_step (r := 0) (by simp only [x_proves, f_X3_proves, hz, a1, i10, Option.bind_some, e1, hmn, t1, p1, p3, sm, if_pos (show nI 0 = 0 from rfl), q1, if_neg e0]; rfl) (by simp only [m_proves, f_X4_proves, a2, i10, Option.bind_some, d1, if_pos (show nI 0 = 0 from rfl), ← hmm, p4, hwon, p6, if_neg e0]; rfl) ?_
            exact ⟨⟨n, hz, V, p7, fun _ => hR, fun _ => ⟨e4, e5⟩⟩, hRH, hRK, hRT⟩
      exact fin _ f2 rfl
    · have f3 : f_X3_winsOf N (nI 1) (nI n) wv1 = _ := f3
      have hall := all_sub hn hR.1
      have fin : ∀ mn, f_X3_winsOf N (nI 1) (nI n) wv1 = some mn → (((1 : Int32) <<< (nI n &&& 31)) - 1) - wv1 = mn → ∃ (r : Int32) (S2 : XS) (M2 : MS), x_proves N (nI 1) S = some (r, S2) ∧ m_proves N (nI 1) M = some (r, M2) ∧ Rel S2 M2 := fun mn hmn hmm => by
        obtain ⟨tw, p1, p2⟩ := p_pr32 (N := N) (mn := mn) (pl := nI 1) (o := S.2.2 0) (w := S.2.2 2) (ch := ch1) (tw := w3) (by omega) hn hcr1 (fun v hv => (t2 v hv).2.2)
        have p3 := p_pr105 (N := N) (n := n) (mn := mn) (tz := nI n) (wk := wk1) (wv := wv1) (ck := ck1) (to := o3) (tr := r3) (tw := tw) (ch := ch1) (by omega) hn
        obtain ⟨s4, p4, p5⟩ := p_pr37 (N := N) (mn := mn) (pl := nI 1) (ch := ch2) (by omega) hn hcr2 d2
        have hf2 : ∀ v, v < n → tw v = fwf mn (nI 1) (S.2.2 0) (S.2.2 2) ch2 v := fun v hv => (p2 v hv).trans (fwf_cg hcc v hv)
        have Vf := fwf_vf (mn := mn) (pl := nI 1) V hcr2
        have cg : ∀ v, v < n → o3 v = S.2.2 0 v ∧ r3 v = S.2.2 1 v ∧ tw v = fwf mn (nI 1) (S.2.2 0) (S.2.2 2) ch2 v := fun v hv => ⟨(t2 v hv).1, (t2 v hv).2.1, hf2 v hv⟩
        obtain ⟨R2, q1, q2⟩ := p_winsOf0 (N := N) (by omega) (VF_cong Vf cg)
        have q3 := WinS_cong q2 (fun v hv => ⟨(cg v hv).1.symm, (cg v hv).2.1.symm, (cg v hv).2.2.symm⟩)
        obtain ⟨g2, b1, b3, b5, hwon⟩ := p_won (meas := g) (a1 := y1) (a3 := y3) (a5 := y5) hN Vf p5 q3
        obtain ⟨s5, p6, p7⟩ := p_pr204 (N := N) (w := S.2.2 2) (by omega) hn p5 d4
        have hb : anb (bdf mn tw) n = anb (bdf mn (fwf mn (nI 1) (S.2.2 0) (S.2.2 2) ch2)) n := anb_congr (fun v hv => by unfold bdf; rw [hf2 v hv])
        rw [hb] at p3
        have hall2 := all_sub hn q3.1
        by_cases eb : anb (bdf mn (fwf mn (nI 1) (S.2.2 0) (S.2.2 2) ch2)) n = true
        · rw [if_pos eb] at p3 p4
          refine mk_step (r := 0) (by simp only [x_proves, f_X3_proves, hz, a1, i10, Option.bind_some, e1, hmn, t1, p1, p3, sm]; rfl) (by simp only [m_proves, f_X4_proves, a2, i10, Option.bind_some, d1, if_neg (show ¬ nI 1 = 0 by decide), f_X4_all, chk_t g037, c0, d2.1, p5.1, hmm, p4, hwon, hall2, p6, if_true]; rfl) ?_
          exact ⟨⟨n, hz, V, p7, fun _ => hR, fun _ => ⟨e4, e5⟩⟩, hRH, hRK, hRT⟩
        · rw [if_neg eb] at p3 p4
          by_cases e0 : (mn &&& (((((1 : Int32) <<< (nI n &&& 31)) - 1) &&& (R2 ^^^ (-1))) ^^^ (-1))) = 0
          · refine mk_step (r := 1) (by simp only [x_proves, f_X3_proves, hz, a1, i10, Option.bind_some, e1, hmn, t1, p1, p3, sm, if_neg (show ¬ nI 1 = 0 by decide), f_X0_all, q1, if_pos e0]; rfl) (by simp only [m_proves, f_X4_proves, a2, i10, Option.bind_some, d1, if_neg (show ¬ nI 1 = 0 by decide), f_X4_all, chk_t g037, c0, d2.1, p5.1, hmm, p4, hwon, hall2, p6, if_pos e0]; rfl) ?_
            exact ⟨⟨n, hz, V, p7, fun _ => hR, fun _ => ⟨e4, e5⟩⟩, hRH, hRK, hRT⟩
          · refine mk_step (r := 0) (by simp only [x_proves, f_X3_proves, hz, a1, i10, Option.bind_some, e1, hmn, t1, p1, p3, sm, if_neg (show ¬ nI 1 = 0 by decide), f_X0_all, q1, if_neg e0]; rfl) (by simp only [m_proves, f_X4_proves, a2, i10, Option.bind_some, d1, if_neg (show ¬ nI 1 = 0 by decide), f_X4_all, chk_t g037, c0, d2.1, p5.1, hmm, p4, hwon, hall2, p6, if_neg e0]; rfl) ?_
            exact ⟨⟨n, hz, V, p7, fun _ => hR, fun _ => ⟨e4, e5⟩⟩, hRH, hRK, hRT⟩
      exact fin _ f3 hall
  · refine mk_step (r := -1) (by simp only [x_proves, f_X3_proves, a1, i00, Option.bind_some]; rfl) (by simp only [m_proves, f_X4_proves, a2, i00, Option.bind_some]; rfl) ?_
    exact ⟨⟨n, hz, V, hF, hw, hc⟩, hRH, hRK, hRT⟩
