/-! winsWithin and winsOf0 -/
theorem cert_ext {i n : Nat} {ow rk : Nat → Nat} {wy : Nat → Nat → Bool} {A A' S S' : Nat → Bool} {f : Nat → Nat} (hA : ∀ v, v < n → A v = A' v) (hS : ∀ v, v < n → S v = S' v) (h : Cert i n ow rk wy A S f) : Cert i n ow rk wy A' S' f := by
  intro v hv hs
  obtain ⟨a, b, c⟩ := h v hv (by rw [hS v hv]; exact hs)
  refine ⟨by rw [← hA v hv]; exact a, fun ho => ?_, fun ho u hu hw hau => ?_⟩
  · obtain ⟨u, h1, h2, h3, h4⟩ := b ho
    exact ⟨u, h1, h2, by rw [← hS u h1]; exact h3, h4⟩
  · obtain ⟨h3, h4⟩ := c ho u hu hw (by rw [hA u hu]; exact hau)
    exact ⟨by rw [← hS u hu]; exact h3, h4⟩
theorem pull_ext {i n : Nat} {ow : Nat → Nat} {wy : Nat → Nat → Bool} {A S S' X : Nat → Bool} {l : Nat → Nat} (hS : ∀ v, v < n → S v = S' v) (h : PullS i n ow wy A S X l) : PullS i n ow wy A S' X l :=
  ⟨fun v hv hs => h.1 v hv (by rw [hS v hv]; exact hs), h.2.1, fun v hv hx hs => h.2.2.1 v hv hx (by rw [hS v hv]; exact hs), h.2.2.2⟩
theorem b_diff {x y : Int32} {b : Nat} (hb : b < 32) : bt (x &&& (y ^^^ (-1))) b = (bt x b && !bt y b) := by rw [b_and, bt_not y hb]
theorem par2 {d : Nat} (hd : d < 6) : nI d - nI d / 2 * 2 = nI (d % 2) ∧ 1 - nI (d % 2) = nI (1 - d % 2) := by
  rcases (show d = 0 ∨ d = 1 ∨ d = 2 ∨ d = 3 ∨ d = 4 ∨ d = 5 by omega) with rfl | rfl | rfl | rfl | rfl | rfl <;> decide
/-- how great a measure may be, at ranks below T -/
def Bd (i T : Nat) : Nat := if i = (T - 1) % 2 then 256 ^ (T - 1) else 200 * 256 ^ (T - 1)
theorem Bd_le (i T : Nat) (hT : 1 ≤ T) : Bd i T ≤ 256 ^ T ∧ Bd i T ≤ 200 * 256 ^ (T - 1) := by
  have h : 256 ^ T = 256 * 256 ^ (T - 1) := by rw [show T = (T - 1) + 1 from by omega, Nat.pow_succ, Nat.mul_comm]; rfl
  unfold Bd
  split <;> omega
theorem p_ww {N n : Nat} {o r w : Nat → Int32} (hN : 14 ≤ N) (V : VF n o r w) : ∀ T, T ≤ 6 → ∀ dd, T < dd → ∀ i, i < 2 → ∀ arena : Int32, Sub n arena →
    (∀ v, v < n → bt arena v = true → ∃ u, u < n ∧ wyB w v u = true ∧ bt arena u = true) → (∀ v, v < n → bt arena v = true → rkN r v < T) →
    ∃ R, f_X1_winsWithin N dd (nI i) arena (nI T - 1) o r w (nI n) = some R ∧ Sub n R ∧ (∀ b, bt R b = true → bt arena b = true) ∧
      (∃ f, Cert i n (owN o) (rkN r) (wyB w) (bt arena) (bt R) f ∧ ∀ v, v < n → bt R v = true → f v < Bd i T) ∧
      (∃ f, Cert (1 - i) n (owN o) (rkN r) (wyB w) (bt arena) (fun v => bt arena v && !bt R v) f ∧ ∀ v, v < n → bt arena v = true → bt R v = false → f v < Bd (1 - i) T) := by
  obtain ⟨hn, hV⟩ := V
  have ho : ∀ k, k < n → o k = 0 ∨ o k = 1 := fun k hk => (hV k hk).1
  have how : ∀ v, v < n → owN o v = 0 ∨ owN o v = 1 := fun v _ => owN_lt
  intro T
  induction T with
  | zero =>
    intro _ dd hdd i hi arena hA ha hr
    obtain ⟨dd, rfl⟩ : ∃ d', dd = d' + 1 := ⟨dd - 1, by omega⟩
    have hz : ∀ v, v < n → bt arena v = true → False := fun v hv h => absurd (hr v hv h) (Nat.not_lt_zero _)
    refine ⟨0, ?_, Sub.zero, fun b hb => (by rw [b_0] at hb; cases hb), ⟨fun _ => 0, fun v hv h => (by rw [b_0] at h; cases h), fun v hv h => (by rw [b_0] at h; cases h)⟩, ⟨fun _ => 0, fun v hv h => (hz v hv (ban2 h).1).elim, fun v hv h _ => (hz v hv h).elim⟩⟩
    rw [f_X1_winsWithin]
    rw [if_neg (show ¬ (0 : Int32) ≤ nI 0 - 1 by decide)]
    by_cases e : arena = 0
    · rw [if_pos e]
    · rw [if_neg e]
  | succ d ih =>
    intro hT dd hdd i hi arena hA ha hr
    obtain ⟨dd, rfl⟩ : ∃ d', dd = d' + 1 := ⟨dd - 1, by omega⟩
    rw [nI_pred]
    by_cases e0 : arena = 0
    · have hz : ∀ v, v < n → bt arena v = true → False := fun v hv h => by rw [e0, b_0] at h; cases h
      refine ⟨0, by rw [f_X1_winsWithin, if_pos e0], Sub.zero, fun b hb => (by rw [b_0] at hb; cases hb), ⟨fun _ => 0, fun v hv h => (by rw [b_0] at h; cases h), fun v hv h => (by rw [b_0] at h; cases h)⟩, ⟨fun _ => 0, fun v hv h => (hz v hv (ban2 h).1).elim, fun v hv h _ => (hz v hv h).elim⟩⟩
    obtain ⟨rd, hrd, hrb⟩ := p_ranked (N := N) (n := n) (r := r) (i := nI d) (by omega) hn
    have hrkd : ∀ v, v < n → (bt rd v = true ↔ rkN r v = d) := by
      intro v hv
      rw [hrb v (by omega)]
      simp only [hv, decide_true, Bool.true_and, decide_eq_true_eq]
      rw [(hV v hv).2.1.1, nI_eq (by have := (hV v hv).2.1.2; omega) (by omega)]
    obtain ⟨pe1, pe2⟩ := par2 (d := d) (by omega)
    generalize hF : d % 2 = F at pe1 pe2
    have hF2 : F < 2 := by omega
    have hFE : F ≠ 1 - F := by omega
    have howF : ∀ v, v < n → owN o v = F ∨ owN o v = 1 - F := fun v hv => by rcases how v hv with h | h <;> omega
    have hra : ∀ v, v < n → bt arena v = true → rkN r v ≤ d := fun v hv h => by have := hr v hv h; omega
    have hP0 : 0 < 256 ^ d := Nat.pow_pos (by omega)
    obtain ⟨R, l1, l2, l3, ⟨f, l4, l5⟩, ⟨f', l6, l7⟩⟩ := loop_inv (fun m (t : Int32 × Int32) => f_X1_winsWithin_L34 N (f_X1_winsWithin N dd) (nI d) rd (nI F) (nI (1 - F)) o r w (nI n) m t.1 t.2)
      (fun j t => ∃ k, k + j = 13 ∧ t.2 = nI k ∧ Sub n t.1 ∧ (∀ b, bt t.1 b = true → bt arena b = true) ∧ cn (bt t.1) n + k ≤ n ∧
        (∀ v, v < n → bt t.1 v = true → ∃ u, u < n ∧ wyB w v u = true ∧ bt t.1 u = true) ∧ (∀ v, v < n → bt t.1 v = true → owN o v ≠ F → ∀ u, u < n → wyB w v u = true → bt arena u = true → bt t.1 u = true) ∧
        ∃ fE, Cert (1 - F) n (owN o) (rkN r) (wyB w) (bt arena) (fun v => bt arena v && !bt t.1 v) fE ∧ ∀ v, v < n → bt arena v = true → bt t.1 v = false → fE v < (13 * k) * 256 ^ d)
      (fun R => Sub n R ∧ (∀ b, bt R b = true → bt arena b = true) ∧ (∃ f, Cert F n (owN o) (rkN r) (wyB w) (bt arena) (bt R) f ∧ ∀ v, v < n → bt R v = true → f v < 256 ^ d) ∧
        (∃ f, Cert (1 - F) n (owN o) (rkN r) (wyB w) (bt arena) (fun v => bt arena v && !bt R v) f ∧ ∀ v, v < n → bt arena v = true → bt R v = false → f v < 200 * 256 ^ d))
      (fun m t hI => by
        obtain ⟨k, h1, -, -, -, h2, -⟩ := hI
        omega)
      (fun m j t hI => by
        obtain ⟨rest, ix⟩ := t
        obtain ⟨k, h1, h2, h3, h4, h5, h6, h7, fE, h8, h9⟩ := hI
        have h2 : ix = nI k := h2
        subst h2
        have h3 : Sub n rest := h3
        have h4 : ∀ b, bt rest b = true → bt arena b = true := h4
        have h5 : cn (bt rest) n + k ≤ n := h5
        have h6 : ∀ v, v < n → bt rest v = true → ∃ u, u < n ∧ wyB w v u = true ∧ bt rest u = true := h6
        have h7 : ∀ v, v < n → bt rest v = true → owN o v ≠ F → ∀ u, u < n → wyB w v u = true → bt arena u = true → bt rest u = true := h7
        have h8 : Cert (1 - F) n (owN o) (rkN r) (wyB w) (bt arena) (fun v => bt arena v && !bt rest v) fE := h8
        have h9 : ∀ v, v < n → bt arena v = true → bt rest v = false → fE v < (13 * k) * 256 ^ d := h9
        have hk13 : (13 * k + 13) * 256 ^ d ≤ 200 * 256 ^ d := Nat.mul_le_mul_right _ (by omega)
        have hk200 : (13 * k) * 256 ^ d ≤ 200 * 256 ^ d := Nat.mul_le_mul_right _ (by omega)
        have hnl : ¬ (12 : Int32) < nI k := nI_nlt (b := k) (a := 12) (by omega) (by omega)
        have hsub : ∀ v, v < n → bt rest v = true → bt arena v = true := fun v _ h => h4 v h
        by_cases e1 : (rest &&& rd) = 0
        · -- no place of the top rank
          have hrk : ∀ v, v < n → bt rest v = true → rkN r v < d := by
            intro v hv h
            have h10 := hra v hv (h4 v h)
            have h11 : ¬ rkN r v = d := fun e => by
              have := bt_zero.mp e1 v (by omega)
              rw [b_and, h, (hrkd v hv).mpr e] at this
              cases this
            omega
          obtain ⟨R, r1, r2, r3, ⟨g, r4, r5⟩, ⟨g', r6, r7⟩⟩ := ih (by omega) dd (by omega) F hF2 rest h3 h6 hrk
          have hd1 : ∀ v, v < n → bt rest v = true → 1 ≤ d := fun v hv h => by have := hrk v hv h; omega
          obtain ⟨c1, f, c2, c3⟩ := zl (i := F) (j := 1 - F) (d := d) (c := 13 * k) (A := bt arena) (rest := bt rest) (R := bt R) hsub hra howF h7 h8 h9 (fun v _ h => r3 v h) r4 r6 (fun v hv h h' => Nat.lt_of_lt_of_le (r7 v hv h h') (Bd_le _ _ (hd1 v hv h)).1)
          refine Or.inl ⟨R, by show f_X1_winsWithin_L34 N (f_X1_winsWithin N dd) (nI d) rd (nI F) (nI (1 - F)) o r w (nI n) (m + 1) rest (nI k) = _; rw [f_X1_winsWithin_L34, if_neg hnl, if_pos e1, r1]; rfl, r2, fun b hb => h4 b (r3 b hb), ⟨g, c1, fun v hv h => Nat.lt_of_lt_of_le (r5 v hv h) (Bd_le _ _ (hd1 v hv (r3 v h))).1⟩, f, c2, fun v hv h h' => Nat.lt_of_lt_of_le (c3 v hv h h') hk13⟩
        · obtain ⟨X, l, x1, x2, x3⟩ := p_pull (N := N) (n := n) (i := F) (set := rest &&& rd) (arena := rest) (o := o) (w := w) (by omega) hn hF2 ho h3 (fun b hb => by rw [b_and] at hb; exact (bat2 hb).1)
          have x3' : PullS F n (owN o) (wyB w) (bt rest) (fun v => bt rest v && decide (rkN r v = d)) (bt X) l := pull_ext (fun v hv => by
            rw [b_and]
            congr 1
            by_cases e : rkN r v = d
            · rw [(hrkd v hv).mpr e]; simp [e]
            · rw [bf (fun h => e ((hrkd v hv).mp h))]; simp [e]) x3
          have hbs : Sub n (rest &&& (X ^^^ (-1))) := h3.and
          have hbb : ∀ v, v < n → bt (rest &&& (X ^^^ (-1))) v = (bt rest v && !bt X v) := fun v hv => b_diff (by omega)
          have hba : ∀ v, v < n → bt (rest &&& (X ^^^ (-1))) v = true → ∃ u, u < n ∧ wyB w v u = true ∧ bt (rest &&& (X ^^^ (-1))) u = true := by
            intro v hv h
            rw [hbb v hv] at h
            obtain ⟨hrv, hxv⟩ := ban2 h
            obtain ⟨z1, z2⟩ := x3.2.2.2 v hv hrv hxv
            obtain ⟨u, u1, u2, u3⟩ := h6 v hv hrv
            by_cases e : owN o v = F
            · exact ⟨u, u1, u2, by rw [hbb u u1]; exact ban u3 (z1 e u u1 u2)⟩
            · rcases z2 e with z | ⟨u, a1, a2, a3, a4⟩
              · exact ⟨u, u1, u2, by rw [hbb u u1]; exact ban u3 (z u u1 u2 u3)⟩
              · exact ⟨u, a1, a2, by rw [hbb u a1]; exact ban a3 a4⟩
          have hbr : ∀ v, v < n → bt (rest &&& (X ^^^ (-1))) v = true → rkN r v < d := by
            intro v hv h
            rw [hbb v hv] at h
            obtain ⟨hrv, hxv⟩ := ban2 h
            have h10 := hra v hv (h4 v hrv)
            have h11 : ¬ rkN r v = d := fun e => by
              have := x3'.1 v hv (by simp [hrv, e])
              rw [hxv] at this
              cases this
            omega
          obtain ⟨Lo, r1, r2, r3, ⟨g, r4, r5⟩, ⟨g', r6, r7⟩⟩ := ih (by omega) dd (by omega) (1 - F) (by omega) (rest &&& (X ^^^ (-1))) hbs hba hbr
          have hd1 : ∀ v, v < n → bt (rest &&& (X ^^^ (-1))) v = true → 1 ≤ d := fun v hv h => by have := hbr v hv h; omega
          have hff : 1 - (1 - F) = F := by omega
          rw [hff] at r6 r7
          by_cases e2 : Lo = 0
          · -- nothing is lost
            have hlo : ∀ v, bt Lo v = false := fun v => by rw [e2, b_0]
            have hg : Cert F n (owN o) (rkN r) (wyB w) (fun v => bt rest v && !bt X v) (fun v => bt rest v && !bt X v) g' := cert_ext hbb (fun v hv => by rw [hbb v hv, hlo v]; simp) r6
            obtain ⟨f, c1, c2⟩ := zf (i := F) (d := d) (A := bt arena) (rest := bt rest) (X := bt X) (l := l) (g := g') hF.symm hsub h6 h7 (fun v hv h => hra v hv (h4 v h)) x3' hg (fun v hv h h' => by
              have hb : bt (rest &&& (X ^^^ (-1))) v = true := by rw [hbb v hv]; exact ban h h'
              exact Nat.lt_of_lt_of_le (r7 v hv hb (hlo v)) (Bd_le _ _ (hd1 v hv hb)).2)
            exact Or.inl ⟨rest, by show f_X1_winsWithin_L34 N (f_X1_winsWithin N dd) (nI d) rd (nI F) (nI (1 - F)) o r w (nI n) (m + 1) rest (nI k) = _; rw [f_X1_winsWithin_L34, if_neg hnl, if_neg e1, x1, Option.bind_some, r1, Option.bind_some, if_pos e2], h3, h4, ⟨f, c1, c2⟩, fE, h8, fun v hv h h' => Nat.lt_of_lt_of_le (h9 v hv h h') hk200⟩
          · -- the enemy wins something below
            have hlr : ∀ b, bt Lo b = true → bt rest b = true := fun b hb => by
              have hl := r2.lt hb
              have := r3 b hb
              rw [hbb b hl] at this
              exact (ban2 this).1
            obtain ⟨Y, ly, y1, y2, y3⟩ := p_pull (N := N) (n := n) (i := 1 - F) (set := Lo) (arena := rest) (o := o) (w := w) (by omega) hn (by omega) ho h3 hlr
            obtain ⟨f, c1, c2⟩ := ze (i := F) (j := 1 - F) (d := d) (c := 13 * k) (A := bt arena) (rest := bt rest) (X := bt X) (lost := bt Lo) (Y := bt Y) (l := ly) (g := g) (fE := fE) hsub howF hFE hra h8 h9 (fun v hv h h' e u hu hw => (x3.2.2.2 v hv h h').1 e u hu hw)
              (fun v hv h => by have := r3 v h; rw [hbb v hv] at this; exact ban2 this) (cert_ext hbb (fun _ _ => rfl) r4) (fun v hv h => Nat.lt_of_lt_of_le (r5 v hv h) (Bd_le _ _ (hd1 v hv (r3 v h))).1) y3
            obtain ⟨i1, i2⟩ := zinv (i := F) (j := 1 - F) (A := bt arena) (rest := bt rest) (lost := bt Lo) (Y := bt Y) (l := ly) hsub howF hFE h6 h7 y3
            have hyb : ∀ v, v < n → bt (rest &&& (Y ^^^ (-1))) v = (bt rest v && !bt Y v) := fun v hv => b_diff (by omega)
            refine Or.inr ⟨(rest &&& (Y ^^^ (-1)), nI k + 1), by show f_X1_winsWithin_L34 N (f_X1_winsWithin N dd) (nI d) rd (nI F) (nI (1 - F)) o r w (nI n) (m + 1) rest (nI k) = _; rw [f_X1_winsWithin_L34, if_neg hnl, if_neg e1, x1, Option.bind_some, r1, Option.bind_some, if_neg e2, y1, Option.bind_some], k + 1, by omega, nI_1 k, h3.and, fun b hb => ?_, ?_, fun v hv h => ?_, fun v hv h e u hu hw hau => ?_, f, ?_, fun v hv h h' => ?_⟩
            · have hb : bt (rest &&& (Y ^^^ (-1))) b = true := hb
              rw [b_and] at hb
              exact h4 b (bat2 hb).1
            · obtain ⟨z, z1, z2⟩ := bt_ne e2
              have hz := r2.lt z2
              have h10 := cn_lt (f := bt (rest &&& (Y ^^^ (-1)))) (g := bt rest) (n := n) (k := z) (fun u _ h => by rw [b_and] at h; exact (bat2 h).1) hz (by rw [hyb z hz, y3.1 z hz z2]; simp) (hlr z z2)
              show cn (bt (rest &&& (Y ^^^ (-1)))) n + (k + 1) ≤ n
              omega
            · have h : bt (rest &&& (Y ^^^ (-1))) v = true := h
              rw [hyb v hv] at h
              obtain ⟨u, u1, u2, u3⟩ := i1 v hv h
              exact ⟨u, u1, u2, by show bt (rest &&& (Y ^^^ (-1))) u = true; rw [hyb u u1]; exact u3⟩
            · have h : bt (rest &&& (Y ^^^ (-1))) v = true := h
              rw [hyb v hv] at h
              show bt (rest &&& (Y ^^^ (-1))) u = true
              rw [hyb u hu]
              exact i2 v hv h e u hu hw hau
            · exact cert_ext (fun _ _ => rfl) (fun v hv => by show _ = (bt arena v && !bt (rest &&& (Y ^^^ (-1))) v); rw [hyb v hv]) c1
            · have h' : bt (rest &&& (Y ^^^ (-1))) v = false := h'
              rw [hyb v hv] at h'
              rw [show 13 * (k + 1) = 13 * k + 13 from by omega]
              exact c2 v hv h h')
      13 N (arena, 0) (by omega) ⟨0, by omega, rfl, hA, fun _ h => h, by have := cn_le (bt arena) n; show cn (bt arena) n + 0 ≤ n; omega, ha, fun v hv h e u hu hw hau => hau, fun _ => 0, fun v hv h => (by
        have h9 := ban2 h
        have h10 : bt arena v = false := h9.2
        rw [h9.1] at h10
        cases h10), fun v hv h h' => (by
        have h' : bt arena v = false := h'
        rw [h] at h'
        cases h')⟩
    have hbd1 : Bd F (d + 1) = 256 ^ d := by unfold Bd; rw [if_pos (by rw [Nat.add_sub_cancel]; exact hF.symm), Nat.add_sub_cancel]
    have hbd2 : Bd (1 - F) (d + 1) = 200 * 256 ^ d := by unfold Bd; rw [if_neg (by rw [Nat.add_sub_cancel]; omega), Nat.add_sub_cancel]
    have hrun : f_X1_winsWithin N (dd + 1) (nI i) arena (nI d) o r w (nI n) = if nI i = nI F then some R else some (arena &&& (R ^^^ (-1))) := by
      rw [f_X1_winsWithin, if_neg e0, if_pos (nI_pos' (by omega)), hrd, Option.bind_some, pe1, pe2]
      have l1 : f_X1_winsWithin_L34 N (f_X1_winsWithin N dd) (nI d) rd (nI F) (nI (1 - F)) o r w (nI n) N arena 0 = some R := l1
      rw [l1, Option.bind_some]
    by_cases ei : i = F
    · subst ei
      refine ⟨R, by rw [hrun, if_pos rfl], l2, l3, ⟨f, l4, by rw [hbd1]; exact l5⟩, f', l6, by rw [hbd2]; exact l7⟩
    · have hi1 : i = 1 - F := by omega
      have hi2 : 1 - i = F := by omega
      have hdb : ∀ v, v < n → bt (arena &&& (R ^^^ (-1))) v = (bt arena v && !bt R v) := fun v hv => b_diff (by omega)
      refine ⟨arena &&& (R ^^^ (-1)), by rw [hrun, if_neg (nI_ne (by omega) (by omega) ei)], hA.and, fun b hb => by rw [b_and] at hb; exact (bat2 hb).1, ?_, ?_⟩
      · rw [hi1]
        refine ⟨f', cert_ext (fun _ _ => rfl) (fun v hv => (hdb v hv).symm) l6, fun v hv h => ?_⟩
        rw [hdb v hv] at h
        rw [hbd2]
        exact l7 v hv (ban2 h).1 (ban2 h).2
      · rw [hi2]
        have hk : ∀ v, v < n → (bt arena v && !bt (arena &&& (R ^^^ (-1))) v) = bt R v := by
          intro v hv
          rw [hdb v hv]
          cases hRv : bt R v with
          | true => rw [l3 v hRv]; rfl
          | false => cases bt arena v <;> rfl
        refine ⟨f, cert_ext (fun _ _ => rfl) (fun v hv => (hk v hv).symm) l4, fun v hv h h' => ?_⟩
        rw [hbd1]
        refine l5 v hv ?_
        rw [← hk v hv, h, h']
        rfl
