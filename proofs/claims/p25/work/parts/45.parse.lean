/-! what the class reads of a text of places -/
theorem wtx_len (s : Nat) (ds : List Nat) : (wtx s ds).length = 2 * ds.length := by
  induction ds generalizing s with
  | nil => rfl
  | cons d ds ih => show (wtx 44 ds).length + 1 + 1 = 2 * (ds.length + 1); rw [ih]; omega
theorem Rd.app {c : Nat → Nat} {p : Nat} {l1 l2 : List Nat} (h : Rd c p (l1 ++ l2)) : Rd c (p + l1.length) l2 := by
  intro j
  rw [Nat.add_assoc, h (l1.length + j), List.getD_eq_getElem?_getD, List.getElem?_append_right (Nat.le_add_right _ _), Nat.add_sub_cancel_left, List.getD_eq_getElem?_getD]
theorem t_append {N P : Nat} {a b : Int32} {o r w : Nat → Int32} (hP : P < 12) : f_X0_append N a b o r w (nI P) = some (upd o P a, upd r P b, upd w P 0, nI (P + 1)) := by
  have h12 : ¬ (12 : Int32) ≤ nI P := nI_ge (b := 12) hP (by omega)
  simp only [f_X0_append, if_neg h12, chk_t (gi_ok hP (by omega)), nI_clamp (show P < 2 ^ 31 by omega), nI_1]
theorem bs_i {α β γ : Type} {X : Option (α ⊕ β)} {g : α → Option γ} {f : β → Option γ} {b : β} {y : Option γ} (hx : X = some (.inr b)) (h : f b = y) : Option.bind X (fun q => sm q g f) = y := by rw [hx]; exact h
def ocr (a : Nat) : Nat := if a = 1 then 111 else 101
theorem p_lp {N L P n K p ow rk : Nat} {c : Nat → Nat} {cs o r w wn wi : Nat → Int32} {rest ds : List Nat} {fi fr : Int32} (hN : 100 ≤ N) (T : TX c cs L) (hP : P < 12) (hn : n ≤ 10) (hE : Ends rest) (how : ow < 2) (hrk : rk < 6)
    (hr : Rd c p (ocr ow :: (48 + rk) :: wtx 58 ds ++ rest)) (hx : ∀ x, x ∈ ds → x < n) (hnd : ds.Nodup) (hp : p + 3 + 2 * ds.length < 100) (hK : K + ds.length ≤ 80) (hd : ds.length < 80) (hw : ∀ j, j < K → ∃ v, v < n ∧ wn j = nI v) :
    ∃ w' wn' wi', f_X2_lookAtPlace N cs (nI L) o r w (nI P) fi fr (nI p) wn wi (nI K) = some (1, upd o P (nI ow), upd r P (nI rk), w', nI (P + 1), fi, fr, nI (p + 2 + 2 * ds.length), wn', wi', nI (K + ds.length)) ∧
      (∀ v, v ≠ P → w' v = w v) ∧ (∀ b, b < 32 → (bt (w' P) b = true ↔ b ∈ ds)) ∧ ∀ j, j < K + ds.length → ∃ v, v < n ∧ wn' j = nI v := by
  obtain ⟨h1, h2⟩ := hr.hd
  have h2 : Rd c (p + 1) ((48 + rk) :: (wtx 58 ds ++ rest)) := h2
  obtain ⟨h3, h4⟩ := h2.hd
  have a1 := t_char (N := N) (p := p) T (by omega)
  rw [h1] at a1
  have a2 : (if nI (ocr ow) = 101 then some (0 : Int32) else some 1) = some (nI ow) := by rcases (show ow = 0 ∨ ow = 1 by omega) with rfl | rfl <;> rfl
  have a4 := t_dig1 (N := N) (p := p + 1) T (by omega) (show rk < 10 by omega) h3
  have a5 : 0 ≤ nI rk := nI_pos' (by omega)
  have a6 := e_rank (N := N) hrk
  have a7 := t_append (N := N) (a := nI ow) (b := nI rk) (o := o) (r := r) (w := w) hP
  have a8 := t_char (N := N) (p := p + 1 + 1) T (by omega)
  cases ds with
  | nil =>
    have h4 : Rd c (p + 1 + 1) rest := h4
    have h5 := h4.ends hE
    have a9 : ¬ nI (c (p + 1 + 1)) = 58 := nI_ne (b := 58) (by omega) (by omega) (by omega)
    refine ⟨upd w P 0, wn, wi, ?_, fun v hv => upd_n hv, fun b hb => by rw [upd_s, b_0]; simp, hw⟩
    unfold f_X2_lookAtPlace
    simp only [nI_1]
    refine bd_i a1 (bd_i a2 (bs_i (b := (fi, fr)) ?_ (bd_i a4 (it_i a5 (bd_i a6 (it_e (show ¬ (1 : Int32) = 0 by decide) (bd_i a7 (bd_i a8 (it_e a9 rfl)))))))))
    rcases (show ow = 0 ∨ ow = 1 by omega) with rfl | rfl
    · exact it_e (by decide) rfl
    · exact it_i rfl (bd_i a1 (it_i rfl rfl))
  | cons d ds =>
    have hlen : (d :: ds).length = ds.length + 1 := rfl
    rw [hlen] at hp hK hd
    have h4 : Rd c (p + 1 + 1) (58 :: ((48 + d) :: wtx 44 ds ++ rest)) := h4
    obtain ⟨h5, h6⟩ := h4.hd
    have a9 : nI (c (p + 1 + 1)) = 58 := by rw [h5]; rfl
    obtain ⟨tw', wn', wi', b1, b2, b3, b4⟩ := p_lw (N := N) (P := P) (F := K) (n := n) (fi := fi) (fr := fr) hN T hP hn hE ds d (p + 1 + 1 + 1) 0 N K (upd w P 0) wn wi h6 hx hnd (by omega) (by omega) (by omega) (by omega) (Nat.le_refl _) (fun j hj => by
      obtain ⟨v, v1, v2⟩ := hw j hj
      exact ⟨v, v1, v2, fun h => by omega⟩)
    have b1 : f_X2_lookAtWays_L7 N (nI K) cs (nI L) (nI (P + 1)) N 0 (upd w P 0) fi fr (nI (p + 1 + 1 + 1)) wn wi (nI K) = some (.inr (tw', fi, fr, nI (p + 1 + 1 + 1 + 1 + 2 * ds.length), wn', wi', nI (K + 1 + ds.length))) := b1
    have b5 : f_X2_lookAtWays N cs (nI L) (upd w P 0) (nI (P + 1)) fi fr (nI (p + 1 + 1 + 1)) wn wi (nI K) = some (1, tw', fi, fr, nI (p + 1 + 1 + 1 + 1 + 2 * ds.length), wn', wi', nI (K + 1 + ds.length)) := by
      unfold f_X2_lookAtWays
      exact bd_i b1 rfl
    have e1 : p + 1 + 1 + 1 + 1 + 2 * ds.length = p + 2 + 2 * (d :: ds).length := by rw [hlen]; omega
    have e2 : K + 1 + ds.length = K + (d :: ds).length := by rw [hlen]; omega
    rw [e1, e2] at b5
    rw [e2] at b4
    refine ⟨tw', wn', wi', ?_, fun v hv => by rw [b2 v hv, upd_n hv], fun b hb => by rw [b3 b hb, upd_s, b_0]; simp, b4⟩
    unfold f_X2_lookAtPlace
    simp only [nI_1]
    refine bd_i a1 (bd_i a2 (bs_i (b := (fi, fr)) ?_ (bd_i a4 (it_i a5 (bd_i a6 (it_e (show ¬ (1 : Int32) = 0 by decide) (bd_i a7 (bd_i a8 (it_i a9 (bd_i b5 (chk_i isZ_1 rfl)))))))))))
    rcases (show ow = 0 ∨ ow = 1 by omega) with rfl | rfl
    · exact it_e (by decide) rfl
    · exact it_i rfl (bd_i a1 (it_i rfl rfl))
def pl (ow rk : Nat → Nat) (ws : Nat → List Nat) (k : Nat) : List Nat := ocr (ow k) :: (48 + rk k) :: wtx 58 (ws k)
/-- the text of j places from k on -/
def rtx (ow rk : Nat → Nat) (ws : Nat → List Nat) : Nat → Nat → List Nat
  | _, 0 => []
  | k, j + 1 => pl ow rk ws k ++ (if j = 0 then [] else 59 :: rtx ow rk ws (k + 1) j)
/-- what is told of a place -/
def PT (ow rk : Nat → Nat) (ws : Nat → List Nat) (o r w : Nat → Int32) (v : Nat) : Prop := o v = nI (ow v) ∧ r v = nI (rk v) ∧ ∀ b, b < 32 → (bt (w v) b = true ↔ b ∈ ws v)
def Fit (n : Nat) (ow rk : Nat → Nat) (ws : Nat → List Nat) : Prop := ∀ k, k < n → ow k < 2 ∧ rk k < 6 ∧ (∀ x, x ∈ ws k → x < n) ∧ (ws k).Nodup
theorem p_lps {N L n : Nat} {c : Nat → Nat} {cs : Nat → Int32} {ow rk : Nat → Nat} {ws : Nat → List Nat} {fi fr : Int32} (hN : 100 ≤ N) (T : TX c cs L) (hn : n ≤ 10) (hf : Fit n ow rk ws) :
    ∀ j k p K m o r w wn wi, k + j + 1 = n → j < m → Rd c p (rtx ow rk ws k (j + 1)) → p + (rtx ow rk ws k (j + 1)).length ≤ 80 → 2 * K ≤ p → (∀ i, i < K → ∃ v, v < n ∧ wn i = nI v) → (∀ v, v < k → PT ow rk ws o r w v) →
      ∃ o' r' w' p' wn' wi' K', f_X2_lookAtPlaces_L2 N cs (nI L) m (nI k) o r w (nI k) fi fr (nI p) wn wi (nI K) = some (.inl (1, o', r', w', nI n, fi, fr, nI p', wn', wi', nI K')) ∧ K' ≤ 80 ∧ (∀ i, i < K' → ∃ v, v < n ∧ wn' i = nI v) ∧ ∀ v, v < n → PT ow rk ws o' r' w' v := by
  intro j
  induction j with
  | zero =>
    intro k p K m o r w wn wi hk hm hr hp hK hw ht
    obtain ⟨m, rfl⟩ : ∃ m', m = m' + 1 := ⟨m - 1, by omega⟩
    obtain ⟨f1, f2, f3, f4⟩ := hf k (by omega)
    have hr : Rd c p (ocr (ow k) :: (48 + rk k) :: wtx 58 (ws k) ++ []) := hr
    have hlen : (rtx ow rk ws k (0 + 1)).length = 2 + 2 * (ws k).length := by
      show (ocr (ow k) :: (48 + rk k) :: wtx 58 (ws k) ++ []).length = _
      simp [wtx_len]; omega
    rw [hlen] at hp
    obtain ⟨w', wn', wi', b1, b2, b3, b4⟩ := p_lp (N := N) (P := k) (n := n) (K := K) (o := o) (r := r) (w := w) (wn := wn) (wi := wi) (fi := fi) (fr := fr) hN T (by omega) hn (Or.inl rfl) f1 f2 hr f3 f4 (by omega) (by omega) (by omega) hw
    have h5 : Rd c (p + (ocr (ow k) :: (48 + rk k) :: wtx 58 (ws k)).length) [] := hr.app
    have e5 : p + (ocr (ow k) :: (48 + rk k) :: wtx 58 (ws k)).length = p + 2 + 2 * (ws k).length := by simp [wtx_len]; omega
    rw [e5] at h5
    have h6 := h5.nil
    have h7 : L ≤ p + 2 + 2 * (ws k).length := by
      apply Classical.byContradiction
      intro h
      have := (T.2.1 _ (by omega : p + 2 + 2 * (ws k).length < L)).1
      omega
    have a1 : ¬ (12 : Int32) ≤ nI k := nI_ge (b := 12) (by omega) (by omega)
    have a2 : ¬ nI (p + 2 + 2 * (ws k).length) < nI L := nI_nlt h7 (by omega)
    obtain rfl : n = k + 1 := by omega
    refine ⟨upd o k (nI (ow k)), upd r k (nI (rk k)), w', p + 2 + 2 * (ws k).length, wn', wi', K + (ws k).length, ?_, by omega, b4, fun v hv => ?_⟩
    · rw [f_X2_lookAtPlaces_L2, if_neg a1]
      exact bd_i b1 (it_e (show ¬ (1 : Int32) = 0 by decide) (it_e a2 rfl))
    · by_cases ev : v = k
      · rw [ev]; exact ⟨upd_s, upd_s, b3⟩
      · obtain ⟨t1, t2, t3⟩ := ht v (by omega)
        exact ⟨by rw [upd_n ev]; exact t1, by rw [upd_n ev]; exact t2, by rw [b2 v ev]; exact t3⟩
  | succ j ih =>
    intro k p K m o r w wn wi hk hm hr hp hK hw ht
    obtain ⟨m, rfl⟩ : ∃ m', m = m' + 1 := ⟨m - 1, by omega⟩
    obtain ⟨f1, f2, f3, f4⟩ := hf k (by omega)
    have erest : (if j + 1 = 0 then ([] : List Nat) else 59 :: rtx ow rk ws (k + 1) (j + 1)) = 59 :: rtx ow rk ws (k + 1) (j + 1) := if_neg (Nat.succ_ne_zero j)
    have hre : rtx ow rk ws k (j + 1 + 1) = pl ow rk ws k ++ 59 :: rtx ow rk ws (k + 1) (j + 1) := by
      show pl ow rk ws k ++ (if j + 1 = 0 then ([] : List Nat) else 59 :: rtx ow rk ws (k + 1) (j + 1)) = _
      rw [erest]
    rw [hre] at hr hp
    have hr : Rd c p (ocr (ow k) :: (48 + rk k) :: wtx 58 (ws k) ++ 59 :: rtx ow rk ws (k + 1) (j + 1)) := hr
    have hpl : (pl ow rk ws k).length = 2 + 2 * (ws k).length := by
      show (ocr (ow k) :: (48 + rk k) :: wtx 58 (ws k)).length = _
      simp [wtx_len]; omega
    rw [List.length_append, hpl, List.length_cons] at hp
    obtain ⟨w', wn', wi', b1, b2, b3, b4⟩ := p_lp (N := N) (P := k) (n := n) (K := K) (o := o) (r := r) (w := w) (wn := wn) (wi := wi) (fi := fi) (fr := fr) hN T (by omega) hn (Or.inr ⟨_, rfl⟩) f1 f2 hr f3 f4 (by omega) (by omega) (by omega) hw
    have h5 : Rd c (p + (ocr (ow k) :: (48 + rk k) :: wtx 58 (ws k)).length) (59 :: rtx ow rk ws (k + 1) (j + 1)) := hr.app
    have e5 : p + (ocr (ow k) :: (48 + rk k) :: wtx 58 (ws k)).length = p + 2 + 2 * (ws k).length := by simp [wtx_len]; omega
    rw [e5] at h5
    obtain ⟨h6, h7⟩ := h5.hd
    have h8 : p + 2 + 2 * (ws k).length < L := by
      apply Classical.byContradiction
      intro h
      have := T.2.2 (p + 2 + 2 * (ws k).length) (by omega)
      omega
    have hL := T.1
    have a1 : ¬ (12 : Int32) ≤ nI k := nI_ge (b := 12) (by omega) (by omega)
    have a2 : nI (p + 2 + 2 * (ws k).length) < nI L := nI_lt h8 (by omega)
    have a3 := t_char (N := N) (p := p + 2 + 2 * (ws k).length) T (by omega)
    have a4 : nI (c (p + 2 + 2 * (ws k).length)) = 59 := by rw [h6]; rfl
    obtain ⟨o2, r2, w2, p2, wn2, wi2, K2, g1, g2, g3, g4⟩ := ih (k + 1) (p + 2 + 2 * (ws k).length + 1) (K + (ws k).length) m (upd o k (nI (ow k))) (upd r k (nI (rk k))) w' wn' wi' (by omega) (by omega) h7 (by omega) (by omega) b4 (fun v hv => by
      by_cases ev : v = k
      · rw [ev]; exact ⟨upd_s, upd_s, b3⟩
      · obtain ⟨t1, t2, t3⟩ := ht v (by omega)
        exact ⟨by rw [upd_n ev]; exact t1, by rw [upd_n ev]; exact t2, by rw [b2 v ev]; exact t3⟩)
    refine ⟨o2, r2, w2, p2, wn2, wi2, K2, ?_, g2, g3, g4⟩
    rw [f_X2_lookAtPlaces_L2, if_neg a1]
    refine bd_i b1 (it_e (show ¬ (1 : Int32) = 0 by decide) (it_i a2 (bd_i a3 (it_i a4 ?_))))
    simp only [nI_1]
    exact g1
theorem p_there {N n K : Nat} {wn wi : Nat → Int32} {fi fr : Int32} (hN : 100 ≤ N) (hn : n ≤ 12) (hK : K ≤ 80) (hw : ∀ i, i < K → ∃ v, v < n ∧ wn i = nI v) : f_X2_lookForPlacesOfWays N (nI n) fi fr wn wi (nI K) = some (1, fi, fr) := by
  obtain ⟨y, e1, e2⟩ := for_inv (fun m j (_ : Unit) => f_X2_lookForPlacesOfWays_L2 N (nI n) wn wi (nI K) m j fi fr) K (fun _ _ => True) (fun y => y = .inr (fi, fr))
    (fun m t h => ⟨.inr (fi, fr), by simp only [f_X2_lookForPlacesOfWays_L2]; rw [if_pos (Int32.le_refl _)], rfl⟩)
    (fun m k t hk h => by
      have k1 : ¬ nI K ≤ nI k := nI_ge hk (by omega)
      have k2 := gi_ok (show k < 80 by omega) (by omega)
      obtain ⟨v, v1, v2⟩ := hw k hk
      exact Or.inr ⟨(), by simp only [f_X2_lookForPlacesOfWays_L2, if_neg k1, chk_t k2, nI_clamp (show k < 2 ^ 31 by omega), v2, e_has hn v1, Option.bind_some, i10, nI_1], trivial⟩)
    0 N () (by omega) (by omega) trivial
  have e1 : f_X2_lookForPlacesOfWays_L2 N (nI n) wn wi (nI K) N 0 fi fr = some y := e1
  simp only [f_X2_lookForPlacesOfWays, e1, e2, Option.bind_some, sm]
theorem p_isField {N n : Nat} {l : List Nat} {cs o r w wn wi : Nat → Int32} {ow rk : Nat → Nat} {ws : Nat → List Nat} {z fi fr at' wc : Int32} (hN : 100 ≤ N) (T : TX (fun p => l.getD p 0) cs l.length) (hn0 : 0 < n) (hn : n ≤ 10) (hf : Fit n ow rk ws) (hl : l = rtx ow rk ws 0 n) :
    ∃ o' r' w' a2 wn' wi' wc', f_X2_isField N cs (nI l.length) o r w z fi fr at' wn wi wc = some (1, o', r', w', nI n, fi, fr, a2, wn', wi', wc') ∧ ∀ v, v < n → PT ow rk ws o' r' w' v := by
  obtain ⟨j, rfl⟩ : ∃ j, n = j + 1 := ⟨n - 1, by omega⟩
  obtain ⟨o', r', w', p', wn', wi', K', g1, g2, g3, g4⟩ := p_lps (N := N) (fi := fi) (fr := fr) hN T hn hf j 0 0 0 N o r w wn wi (by omega) (by omega) (by
    rw [← hl]
    intro j
    show l.getD (0 + j) 0 = l.getD j 0
    rw [Nat.zero_add]) (by rw [← hl]; have := T.1; omega) (by omega) (fun i hi => by omega) (fun v hv => by omega)
  have g1 : f_X2_lookAtPlaces_L2 N cs (nI l.length) N 0 o r w 0 fi fr 0 wn wi 0 = some (.inl (1, o', r', w', nI (j + 1), fi, fr, nI p', wn', wi', nI K')) := g1
  have a1 : f_X2_lookAtPlaces N cs (nI l.length) o r w 0 fi fr 0 wn wi 0 = some (1, o', r', w', nI (j + 1), fi, fr, nI p', wn', wi', nI K') := by
    unfold f_X2_lookAtPlaces
    exact bd_i g1 rfl
  have a2 := p_there (N := N) (n := j + 1) (K := K') (wn := wn') (wi := wi') (fi := fi) (fr := fr) hN (by omega) g2 g3
  refine ⟨o', r', w', nI p', wn', wi', nI K', ?_, g4⟩
  unfold f_X2_isField
  exact bd_i a1 (it_e (show ¬ (1 : Int32) = 0 by decide) (bd_i a2 (it_e (show ¬ (1 : Int32) = 0 by decide) rfl)))
