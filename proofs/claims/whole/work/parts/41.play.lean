/-! play -/
theorem cn_add {f g : Nat → Bool} {u n : Nat} (h : ∀ i, i ≠ u → g i = f i) (h0 : f u = false) (h1 : g u = true) : cn g n = cn f n + if u < n then 1 else 0 := by
  induction n with
  | zero => simp [cn]
  | succ n ih =>
    simp only [cn]
    rw [ih]
    by_cases e : n = u
    · subst e
      rw [h0, h1]
      simp
    · rw [h n e]
      generalize (if f n = true then 1 else 0) = z
      by_cases e2 : u < n
      · have e3 : u < n + 1 := by omega
        simp only [if_pos e2, if_pos e3]
        omega
      · have e3 : ¬ u < n + 1 := by omega
        simp only [if_neg e2, if_neg e3]
        omega
theorem cn_full {f : Nat → Bool} {n : Nat} (h : cn f n = n) : ∀ i, i < n → f i = true := by
  intro i hi
  apply bt'
  intro e
  have := cn_lt (f := f) (g := fun _ => true) (n := n) (fun _ _ _ => rfl) hi e rfl
  have := cn_le (fun _ => true) n
  omega
theorem p_pl {N n : Nat} {ch ch' : Nat → Int32} (hn : n ≤ 12) (hcr : Cr n ch) (hcc : ∀ v, v < n → ch v = ch' v) : ∀ j i met l next m m', i + j = n → j < m → j < m' → cn (bt met) n = i → Sub n met → (next = -4 ∨ ∃ u, u < n ∧ next = nI u) → l < n → (∀ v, v < n → bt met v = true → (∃ u, u < n ∧ ch v = nI u ∧ bt met u = true) ∨ ch v = next) →
    ∃ met' l' x', f_X3_play_L37 N (nI n) ch m met (nI l) next (nI i) = some (met', nI l', x') ∧ f_X4_play_L33 N ch' m' met (nI l) next = some (met', nI l', x') ∧ Sub n met' ∧ l' < n ∧ (x' = -4 ∨ ∃ u, u < n ∧ x' = nI u ∧ bt met' u = true ∧ ∀ v, v < n → bt met' v = true → ∃ z, z < n ∧ ch v = nI z ∧ bt met' z = true) := by
  intro j
  induction j with
  | zero =>
    intro i met l next m m' hi hm hm' hc hs hx hl hcl
    obtain ⟨m, rfl⟩ : ∃ z, m = z + 1 := ⟨m - 1, by omega⟩
    obtain ⟨m', rfl⟩ : ∃ z, m' = z + 1 := ⟨m' - 1, by omega⟩
    rcases hx with rfl | ⟨u, hu, rfl⟩
    · refine ⟨met, l, -4, ?_, ?_, hs, hl, Or.inl rfl⟩
      · simp only [f_X3_play_L37, has_no, Option.bind_some, if_true]
        split <;> rfl
      · simp only [f_X4_play_L33, if_pos (show (-4 : Int32) < 0 by decide)]
    · have eb := cn_full (f := bt met) (n := n) (by omega) u hu
      have hcl' : ∀ v, v < n → bt met v = true → ∃ z, z < n ∧ ch v = nI z ∧ bt met z = true := fun v hv hb => by
        rcases hcl v hv hb with h | h
        · exact h
        · exact ⟨u, hu, h, eb⟩
      refine ⟨met, l, nI u, ?_, ?_, hs, hl, Or.inr ⟨u, hu, rfl, eb, hcl'⟩⟩
      · simp only [f_X3_play_L37, has_ok hn hu, Option.bind_some, i10, f_contains (show u < 32 by omega), eb, if_true]
        split <;> rfl
      · simp only [f_X4_play_L33, if_neg (show ¬ nI u < 0 from nI_pos (by omega)), bt_get (show u < 32 by omega), eb, if_true, i10]
  | succ j ih =>
    intro i met l next m m' hi hm hm' hc hs hx hl hcl
    obtain ⟨m, rfl⟩ : ∃ z, m = z + 1 := ⟨m - 1, by omega⟩
    obtain ⟨m', rfl⟩ : ∃ z, m' = z + 1 := ⟨m' - 1, by omega⟩
    have i1 : ¬ (12 : Int32) ≤ nI i := nI_ge (b := 12) (by omega) (by omega)
    rcases hx with rfl | ⟨u, hu, rfl⟩
    · refine ⟨met, l, -4, ?_, ?_, hs, hl, Or.inl rfl⟩
      · simp only [f_X3_play_L37, has_no, Option.bind_some, if_true, if_neg i1]
      · simp only [f_X4_play_L33, if_pos (show (-4 : Int32) < 0 by decide)]
    · obtain ⟨u1, u2, u3, u4⟩ := idx hu hn
      by_cases eb : bt met u = true
      · have hcl' : ∀ v, v < n → bt met v = true → ∃ z, z < n ∧ ch v = nI z ∧ bt met z = true := fun v hv hb => by
          rcases hcl v hv hb with h | h
          · exact h
          · exact ⟨u, hu, h, eb⟩
        refine ⟨met, l, nI u, ?_, ?_, hs, hl, Or.inr ⟨u, hu, rfl, eb, hcl'⟩⟩
        · simp only [f_X3_play_L37, has_ok hn hu, Option.bind_some, i10, f_contains (show u < 32 by omega), eb, if_true, if_neg i1]
        · simp only [f_X4_play_L33, if_neg (show ¬ nI u < 0 from nI_pos (by omega)), bt_get (show u < 32 by omega), eb, if_true, i10]
      · have hbit : ∀ v, v < 32 → bt (met ||| 1 <<< (nI u &&& 31)) v = (bt met v || decide (v = u)) := fun v hv => by rw [b_or, bt_bit (by omega) hv]
        have hbu : bt (met ||| 1 <<< (nI u &&& 31)) u = true := by rw [hbit u (by omega)]; simp
        have hc' : cn (bt (met ||| 1 <<< (nI u &&& 31))) n = i + 1 := by
          rw [cn_add (f := bt met) (u := u) (fun v hv => by
            by_cases e : v < 32
            · rw [hbit v e]; simp [hv]
            · rw [b_big (by omega), b_big (by omega)]) (bf eb) hbu, if_pos hu, hc]
        obtain ⟨met', l', x', h1, h2, h3⟩ := ih (i + 1) (met ||| 1 <<< (nI u &&& 31)) u (ch u) m m' (by omega) (by omega) (by omega) hc' (hs.or (Sub.bit hu (by omega))) (hcr u hu) hu (fun v hv hb => by
          by_cases e : v = u
          · exact Or.inr (by rw [e])
          · have hb : bt met v = true := by
              rw [hbit v (by omega)] at hb
              simpa [e] using hb
            refine Or.inl ?_
            rcases hcl v hv hb with ⟨z, q1, q2, q3⟩ | h
            · exact ⟨z, q1, q2, by rw [hbit z (by omega), q3]; rfl⟩
            · exact ⟨u, hu, h, hbu⟩)
        refine ⟨met', l', x', ?_, ?_, h3⟩
        · simp only [f_X3_play_L37, has_ok hn hu, Option.bind_some, i10, f_contains (show u < 32 by omega), if_neg eb, if_true, if_neg i1, chk_t u2, u3, nI_1]
          exact h1
        · simp only [f_X4_play_L33, if_neg (show ¬ nI u < 0 from nI_pos (by omega)), bt_get (show u < 32 by omega), if_neg eb, if_true, chk_t u2, u3, ← hcc u hu]
          exact h2
def itn (f : Nat → Nat) (u : Nat) : Nat → Nat
  | 0 => u
  | k + 1 => f (itn f u k)
theorem itn_per {f : Nat → Nat} {u c : Nat} (h : itn f u c = u) : ∀ k, itn f u (k + c) = itn f u k := by
  intro k
  induction k with
  | zero => rw [Nat.zero_add]; exact h
  | succ k ih =>
    rw [show k + 1 + c = (k + c) + 1 by omega]
    show f (itn f u (k + c)) = f (itn f u k)
    rw [ih]
theorem mxr_ge {f : Nat → Nat} {k n : Nat} (hk : k < n) : f k ≤ mxr f n := by
  induction n with
  | zero => omega
  | succ n ih =>
    simp only [mxr]
    by_cases e : k = n
    · subst e; split <;> omega
    · have := ih (by omega)
      split <;> omega
theorem mxr_le {f : Nat → Nat} {B n : Nat} (h : ∀ k, k < n → f k ≤ B) : mxr f n ≤ B := by
  induction n with
  | zero => exact Nat.zero_le _
  | succ n ih =>
    have h1 := ih (fun k hk => h k (by omega))
    have h2 := h n (by omega)
    simp only [mxr]
    split <;> omega
theorem mxr_per {f : Nat → Nat} {g : Nat → Nat} {u c : Nat} (hc : 0 < c) (h : itn f u c = u) (hc2 : c ≤ 12) : mxr (fun k => g (itn f u k)) c = mxr (fun k => g (itn f u k)) 12 := by
  apply Nat.le_antisymm
  · exact mxr_le (fun k hk => mxr_ge (f := fun k => g (itn f u k)) (by omega))
  · refine mxr_le (fun k _ => ?_)
    have key : ∀ m k, k < m → g (itn f u k) ≤ mxr (fun k => g (itn f u k)) c := by
      intro m
      induction m with
      | zero => intro k hk; omega
      | succ m ih =>
        intro k hk
        by_cases e : k < c
        · exact mxr_ge (f := fun k => g (itn f u k)) e
        · have := itn_per h (k - c)
          rw [show k - c + c = k by omega] at this
          rw [this]
          exact ih (k - c) (by omega)
    exact key (k + 1) k (by omega)
theorem max_nI {a b : Nat} (ha : a < 100) (hb : b < 100) : (if nI a < nI b then nI b else nI a) = nI (if a < b then b else a) := by
  by_cases e : a < b
  · rw [if_pos (nI_lt e (by omega)), if_pos e]
  · rw [if_neg (nI_nlt (by omega) (by omega)), if_neg e]
theorem max_nI' {a b : Nat} (ha : a < 100) (hb : b < 100) : (if nI b ≤ nI a then some (nI a) else some (nI b)) = some (nI (if a < b then b else a)) := by
  by_cases e : a < b
  · rw [if_neg (fun h => by have := (nI_leI (by omega) (by omega)).mp h; omega), if_pos e]
  · rw [if_pos ((nI_leI (by omega) (by omega)).mpr (by omega)), if_neg e]
theorem p_ring {N n u : Nat} {o r w s ch ch' : Nat → Int32} {P : Nat → Prop} (hN : 13 ≤ N) (V : VF n o r w) (hF : FE n o r w s) (hcc : ∀ v, v < n → ch v = ch' v) (hu : P u) (hP : ∀ v, P v → v < n ∧ ∃ z, P z ∧ ch v = nI z) :
    ∃ x, f_X3_greatestRankOfRing N (nI u) r (nI n) ch = some x ∧ f_X4_play_L124 N s ch' N 0 (nI u) 0 = some x := by
  have hn := V.1
  obtain ⟨f, hf⟩ : ∃ f : Nat → Nat, ∀ v, P v → P (f v) ∧ ch v = nI (f v) := ⟨fun v => (ch v).toNatClampNeg, fun v hv => by
    obtain ⟨-, z, h1, h2⟩ := hP v hv
    have hz := (hP z h1).1
    show P (ch v).toNatClampNeg ∧ ch v = nI (ch v).toNatClampNeg
    rw [h2, nI_clamp (by omega)]
    exact ⟨h1, rfl⟩⟩
  have hit : ∀ k, P (itn f u k) := fun k => by
    induction k with
    | zero => exact hu
    | succ k ih => exact (hf _ ih).1
  have hin : ∀ k, itn f u k < n := fun k => (hP _ (hit k)).1
  have hch : ∀ k, ch (itn f u k) = nI (itn f u (k + 1)) := fun k => (hf _ (hit k)).2
  have hr : ∀ k, r (itn f u k) = nI (rkN r (itn f u k)) ∧ rkN r (itn f u k) < 6 := fun k => (V.2 _ (hin k)).2.1
  have hmx : ∀ k, mxr (fun k => rkN r (itn f u k)) k < 6 := fun k => mxr_lt (fun i _ => (hr i).2) (by omega)
  refine ⟨nI (mxr (fun k => rkN r (itn f u k)) 12), ?_, ?_⟩
  · obtain ⟨y, e1, e2⟩ := for_inv (fun m j (t : Int32 × Int32) => f_X3_greatestRankOfRing_L7 N (nI u) r (nI n) ch m t.1 t.2 j) 12 (fun k t => t.1 = nI (mxr (fun k => rkN r (itn f u k)) k) ∧ t.2 = nI (itn f u k)) (fun y => y = .inl (nI (mxr (fun k => rkN r (itn f u k)) 12)) ∨ y = .inr (nI (mxr (fun k => rkN r (itn f u k)) 12)))
      (fun m t h => ⟨.inr t.1, by simp only [f_X3_greatestRankOfRing_L7]; rw [if_pos (by decide)], Or.inr (by rw [h.1])⟩)
      (fun m k t hk h => by
        obtain ⟨g, at'⟩ := t
        obtain ⟨h1, h2⟩ := h
        have h1 : g = nI (mxr (fun k => rkN r (itn f u k)) k) := h1
        have h2 : at' = nI (itn f u k) := h2
        subst h1
        subst h2
        have k0 : ¬ (12 : Int32) ≤ nI k := nI_ge (b := 12) (by omega) (by omega)
        obtain ⟨k1, k2, k3, k4⟩ := idx (hin k) hn
        have hm : (if nI (mxr (fun k => rkN r (itn f u k)) k) < nI (rkN r (itn f u k)) then nI (rkN r (itn f u k)) else nI (mxr (fun k => rkN r (itn f u k)) k)) = nI (mxr (fun k => rkN r (itn f u k)) (k + 1)) := max_nI (by have := hmx k; omega) (by have := (hr k).2; omega)
        by_cases e : itn f u (k + 1) = u
        · refine Or.inl ⟨_, ?_, Or.inl rfl⟩
          rw [← mxr_per (g := rkN r) (f := f) (u := u) (c := k + 1) (by omega) e (by omega), ← hm]
          simp only [f_X3_greatestRankOfRing_L7, if_neg k0, has_ok hn (hin k), Option.bind_some, i10, chk_t k2, k3, hch k, e, if_true]
          rw [← (hr k).1]
        · refine Or.inr ⟨(nI (mxr (fun k => rkN r (itn f u k)) (k + 1)), nI (itn f u (k + 1))), ?_, rfl, rfl⟩
          rw [← hm]
          have e' : ¬ nI (itn f u (k + 1)) = nI u := nI_ne (by have := hin (k + 1); omega) (by have := (hP u hu).1; omega) e
          simp only [f_X3_greatestRankOfRing_L7, if_neg k0, has_ok hn (hin k), Option.bind_some, i10, chk_t k2, k3, hch k, if_neg e', nI_1]
          rw [← (hr k).1])
      0 N (0, nI u) (by omega) (by omega) ⟨rfl, rfl⟩
    have e1 : f_X3_greatestRankOfRing_L7 N (nI u) r (nI n) ch N 0 (nI u) 0 = some y := e1
    rcases e2 with e2 | e2
    · simp only [f_X3_greatestRankOfRing, e1, e2, Option.bind_some, sm]
    · simp only [f_X3_greatestRankOfRing, e1, e2, Option.bind_some, sm]
  · obtain ⟨y, e1, e2⟩ := for_inv (fun m j (t : Int32 × Int32) => f_X4_play_L124 N s ch' m t.1 t.2 j) 12 (fun k t => t.1 = nI (mxr (fun k => rkN r (itn f u k)) k) ∧ t.2 = nI (itn f u k)) (fun y => y = nI (mxr (fun k => rkN r (itn f u k)) 12))
      (fun m t h => ⟨t.1, by simp only [f_X4_play_L124]; rw [if_pos (by decide)], h.1⟩)
      (fun m k t hk h => by
        obtain ⟨g, at'⟩ := t
        obtain ⟨h1, h2⟩ := h
        have h1 : g = nI (mxr (fun k => rkN r (itn f u k)) k) := h1
        have h2 : at' = nI (itn f u k) := h2
        subst h1
        subst h2
        have k0 : ¬ (12 : Int32) ≤ nI k := nI_ge (b := 12) (by omega) (by omega)
        obtain ⟨k1, k2, k3, k4⟩ := idx (hin k) hn
        obtain ⟨-, z2, -, -, s2, -⟩ := idm hF (hin k) hn
        have hm := max_nI' (a := mxr (fun k => rkN r (itn f u k)) k) (b := rkN r (itn f u k)) (by have := hmx k; omega) (by have := (hr k).2; omega)
        refine Or.inr ⟨(nI (mxr (fun k => rkN r (itn f u k)) (k + 1)), nI (itn f u (k + 1))), ?_, rfl, rfl⟩
        simp only [f_X4_play_L124, if_neg k0, m13, chk_t z2, s2, chk_t k2, k3, ← hcc _ (hin k), hch k, nI_1]
        rw [(hr k).1, hm]
        rfl)
      0 N (0, nI u) (by omega) (by omega) ⟨rfl, rfl⟩
    rw [← e2]
    exact e1
