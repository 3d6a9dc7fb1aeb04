/-! texts: what the class sees at a place of a text, and what it reads of a list of ways -/
def TX (c : Nat → Nat) (cs : Nat → Int32) (L : Nat) : Prop := L ≤ 80 ∧ (∀ p, p < L → 32 ≤ c p ∧ c p ≤ 126 ∧ cs p = nI (c p)) ∧ ∀ p, L ≤ p → c p = 0
theorem TX.le {c : Nat → Nat} {cs : Nat → Int32} {L p : Nat} (T : TX c cs L) : c p ≤ 126 := by
  by_cases e : p < L
  · exact (T.2.1 p e).2.1
  · rw [T.2.2 p (by omega)]; omega
theorem t_char {N L p : Nat} {c : Nat → Nat} {cs : Nat → Int32} (T : TX c cs L) (hp : p < 200) : f_X2_character N cs (nI L) (nI p) = some (nI (c p)) := by
  have hL := T.1
  by_cases e : p < L
  · obtain ⟨h1, h2, h3⟩ := T.2.1 p e
    have hc : isC (nI (c p)) = true := by
      have key : ∀ x, x < 127 → isC (nI x) = true := by decide +kernel
      exact key _ (by omega)
    have h80 : ¬ (80 : Int32) ≤ nI p := nI_ge (b := 80) (by omega) (by omega)
    simp only [f_X2_character, if_neg (show ¬ nI p < 0 from nI_pos (by omega)), if_neg (show ¬ nI L ≤ nI p from nI_ge e (by omega)), if_neg h80, chk_t (gi_ok (show p < 80 by omega) (by omega)), nI_clamp (show p < 2 ^ 31 by omega), h3, chk_t hc]
  · rw [T.2.2 p (by omega)]
    simp only [f_X2_character, if_neg (show ¬ nI p < 0 from nI_pos (by omega)), if_pos (show nI L ≤ nI p from (nI_leI (by omega) (by omega)).mpr (by omega))]
    rfl
theorem t_digit {N L p : Nat} {c : Nat → Nat} {cs : Nat → Int32} (T : TX c cs L) (hp : p < 200) : f_X2_digit N cs (nI L) (nI p) = some (if 48 ≤ c p ∧ c p ≤ 57 then nI (c p - 48) else -1) := by
  have h126 := T.le (p := p)
  simp only [f_X2_digit, t_char T hp, Option.bind_some]
  by_cases e1 : c p < 48
  · have e1' : nI (c p) < 48 := nI_lt (b := 48) e1 (by omega)
    rw [if_pos e1', if_neg (by omega)]
  · have e1' : ¬ nI (c p) < 48 := nI_nlt (b := 48) (by omega) (by omega)
    rw [if_neg e1']
    by_cases e2 : 57 < c p
    · have e2' : (57 : Int32) < nI (c p) := nI_lt (a := 57) e2 (by omega)
      rw [if_pos e2', if_neg (by omega)]
    · have e2' : ¬ (57 : Int32) < nI (c p) := nI_nlt (a := 57) (by omega) (by omega)
      have e3 : nI (c p) - 48 = nI (c p - 48) := pk_sub (b := 48) (by omega)
      rw [if_neg e2', if_pos ⟨by omega, by omega⟩, e3]
theorem t_dig1 {N L p d : Nat} {c : Nat → Nat} {cs : Nat → Int32} (T : TX c cs L) (hp : p < 200) (hd : d < 10) (h : c p = 48 + d) : f_X2_digit N cs (nI L) (nI p) = some (nI d) := by
  rw [t_digit T hp, h, if_pos ⟨by omega, by omega⟩]
  congr 2; omega
theorem t_dig0 {N L p : Nat} {c : Nat → Nat} {cs : Nat → Int32} (T : TX c cs L) (hp : p < 200) (h : c p = 44 ∨ c p = 59 ∨ c p = 0) : f_X2_digit N cs (nI L) (nI p) = some (-1) := by
  rw [t_digit T hp, if_neg (by omega)]
/-- what stands from p on -/
def Rd (c : Nat → Nat) (p : Nat) (l : List Nat) : Prop := ∀ j, c (p + j) = l.getD j 0
theorem Rd.hd {c : Nat → Nat} {p a : Nat} {l : List Nat} (h : Rd c p (a :: l)) : c p = a ∧ Rd c (p + 1) l := by
  refine ⟨by have := h 0; simpa using this, fun j => ?_⟩
  have := h (j + 1)
  rw [show p + 1 + j = p + (j + 1) from by omega, this]
  simp
theorem Rd.nil {c : Nat → Nat} {p : Nat} (h : Rd c p []) : c p = 0 := by have := h 0; simpa using this
/-- ways with their separators -/
def wtx (sep : Nat) : List Nat → List Nat
  | [] => []
  | d :: ds => sep :: (48 + d) :: wtx 44 ds
def Ends (l : List Nat) : Prop := l = [] ∨ ∃ t, l = 59 :: t
theorem Rd.ends {c : Nat → Nat} {p : Nat} {l : List Nat} (h : Rd c p l) (e : Ends l) : c p = 59 ∨ c p = 0 := by
  rcases e with rfl | ⟨t, rfl⟩
  · exact Or.inr h.nil
  · exact Or.inl h.hd.1
theorem t_since {N K F v : Nat} {wn : Nat → Int32} (hN : 100 ≤ N) (hK : K ≤ 80) (hF : F ≤ K) (hw : ∀ i, F ≤ i → i < K → ¬ wn i = nI v) : f_X2_isToldSince N (nI F) (nI v) wn (nI K) = some 0 := by
  obtain ⟨y, e1, e2⟩ := for_inv (fun m j (_ : Unit) => f_X2_isToldSince_L2 N (nI v) wn (nI K) m j) K (fun k _ => F ≤ k) (fun y => y = .inr ())
    (fun m t h => ⟨.inr (), by simp only [f_X2_isToldSince_L2]; rw [if_pos (Int32.le_refl _)], rfl⟩)
    (fun m k t hk h => by
      have k1 : ¬ nI K ≤ nI k := nI_ge hk (by omega)
      have k2 := gi_ok (show k < 80 by omega) (by omega)
      exact Or.inr ⟨(), by simp only [f_X2_isToldSince_L2, if_neg k1, chk_t k2, nI_clamp (show k < 2 ^ 31 by omega), if_neg (hw k h hk), nI_1], by omega⟩)
    F N () hF (by omega) (Nat.le_refl _)
  have e1 : f_X2_isToldSince_L2 N (nI v) wn (nI K) N (nI F) = some y := e1
  simp only [f_X2_isToldSince, e1, e2, Option.bind_some, sm]
theorem t_tell {N K P p v : Nat} {tw wn wi : Nat → Int32} (hK : K < 80) (hP : P < 12) (hv : v < 12) : f_X2_tellWay N (nI p) (nI v) tw (nI (P + 1)) wn wi (nI K) = some (upd tw P (tw P ||| bit v), upd wn K (nI v), upd wi K (nI p), nI (K + 1)) := by
  have h80 : ¬ (80 : Int32) ≤ nI K := nI_ge (b := 80) hK (by omega)
  have e' : ¬ (12 : Int32) ≤ nI v := nI_ge (b := 12) (by omega) (by omega)
  simp only [f_X2_tellWay, if_neg h80, chk_t (gi_ok (show K < 80 by omega) (by omega)), nI_clamp (show K < 2 ^ 31 by omega), nI_1, Option.bind_some, nI_pred, e_has (n := P + 1) (by omega) (Nat.lt_succ_self P), i10]
  rw [if_neg e', chk_t (gi_ok (show P < 12 by omega) (by omega)), chk_t (gi_ok (show P < 12 by omega) (by omega)), nI_clamp (by omega)]
  rfl
theorem p_lw {N L P F n : Nat} {c : Nat → Nat} {cs : Nat → Int32} {rest : List Nat} {fi fr : Int32} (hN : 100 ≤ N) (T : TX c cs L) (hP : P < 12) (hn : n ≤ 10) (hE : Ends rest) :
    ∀ ds d p i m K tw wn wi, Rd c p ((48 + d) :: wtx 44 ds ++ rest) → (∀ x, x ∈ d :: ds → x < n) → (d :: ds).Nodup → i + ds.length < 80 → ds.length < m → p + 2 * ds.length < 100 → K + ds.length < 80 → F ≤ K →
      (∀ j, j < K → ∃ v, v < n ∧ wn j = nI v ∧ (F ≤ j → v ∉ d :: ds)) →
      ∃ tw' wn' wi', f_X2_lookAtWays_L7 N (nI F) cs (nI L) (nI (P + 1)) m (nI i) tw fi fr (nI p) wn wi (nI K) = some (.inr (tw', fi, fr, nI (p + 1 + 2 * ds.length), wn', wi', nI (K + 1 + ds.length))) ∧
        (∀ v, v ≠ P → tw' v = tw v) ∧ (∀ b, b < 32 → (bt (tw' P) b = true ↔ (bt (tw P) b = true ∨ b ∈ d :: ds))) ∧ ∀ j, j < K + 1 + ds.length → ∃ v, v < n ∧ wn' j = nI v := by
  intro ds
  induction ds with
  | nil =>
    intro d p i m K tw wn wi hr hx hnd hi hm hp hK hF hw
    have hi : i + 0 < 80 := hi
    have hp : p + 2 * 0 < 100 := hp
    have hK : K + 0 < 80 := hK
    obtain ⟨m, rfl⟩ : ∃ m', m = m' + 1 := ⟨m - 1, by omega⟩
    have hd : d < n := hx d List.mem_cons_self
    obtain ⟨h1, h2⟩ := hr.hd
    have h2 : Rd c (p + 1) rest := h2
    have h3 := h2.ends hE
    have a1 : ¬ (80 : Int32) ≤ nI i := nI_ge (b := 80) (by omega) (by omega)
    have a2 := t_dig1 (N := N) T (show p < 200 by omega) (show d < 10 by omega) h1
    have a3 := t_dig0 (N := N) (p := p + 1) T (by omega) (by omega)
    have a4 : 0 ≤ nI d := nI_pos' (by omega)
    have a5 : (if nI d ≤ 0 then some (nI d, nI (p + 1)) else Option.bind (f_X2_digit N cs (nI L) (nI (p + 1))) (fun q9 => if q9 < 0 then some (nI d, nI (p + 1)) else Option.bind (f_X2_digit N cs (nI L) (nI (p + 1))) (fun q12 => some ((nI d * 10) + q12, nI (p + 1 + 1))))) = some (nI d, nI (p + 1)) := by
      by_cases e : nI d ≤ 0
      · rw [if_pos e]
      · rw [if_neg e, a3, Option.bind_some, if_pos (by decide)]
    have a6 := t_since (N := N) (F := F) (K := K) (v := d) (wn := wn) hN (by omega) hF (fun j j1 j2 hj => by
      obtain ⟨v, v1, v2, v3⟩ := hw j j2
      rw [v2] at hj
      have := (nI_eq (by omega) (by omega)).mp hj
      exact v3 j1 (by rw [this]; exact List.mem_cons_self))
    have a7 := t_tell (N := N) (K := K) (P := P) (p := p) (v := d) (tw := tw) (wn := wn) (wi := wi) (by omega) hP (by omega)
    have a8 := t_char (N := N) (p := p + 1) T (by omega)
    have a9 : ¬ nI (c (p + 1)) = 44 := nI_ne (b := 44) (by omega) (by omega) (by omega)
    refine ⟨upd tw P (tw P ||| bit d), upd wn K (nI d), upd wi K (nI p), ?_, fun v hv => upd_n hv, fun b hb => ?_, fun j hj => ?_⟩
    · simp only [f_X2_lookAtWays_L7, if_neg a1, a2, Option.bind_some, if_pos a4, nI_1, a5, a6, if_true, a7, a8, if_neg a9]
      rfl
    · rw [upd_s, b_or, show bt (bit d) b = _ from bt_bit (by omega) hb]
      simp
    · by_cases ej : j = K
      · exact ⟨d, hd, by rw [ej, upd_s]⟩
      · obtain ⟨v, v1, v2, -⟩ := hw j (by have : j < K + 1 + 0 := hj; omega)
        exact ⟨v, v1, by rw [upd_n ej]; exact v2⟩
  | cons d2 ds ih =>
    intro d p i m K tw wn wi hr hx hnd hi hm hp hK hF hw
    have hlen : (d2 :: ds).length = ds.length + 1 := rfl
    rw [hlen] at hi hm hp hK
    obtain ⟨m, rfl⟩ : ∃ m', m = m' + 1 := ⟨m - 1, by omega⟩
    have hd : d < n := hx d List.mem_cons_self
    obtain ⟨h1, h2⟩ := hr.hd
    have h2 : Rd c (p + 1) (44 :: ((48 + d2) :: wtx 44 ds ++ rest)) := h2
    obtain ⟨h3, h4⟩ := h2.hd
    have a1 : ¬ (80 : Int32) ≤ nI i := nI_ge (b := 80) (by omega) (by omega)
    have a2 := t_dig1 (N := N) T (show p < 200 by omega) (show d < 10 by omega) h1
    have a3 := t_dig0 (N := N) (p := p + 1) T (by omega) (Or.inl h3)
    have a4 : 0 ≤ nI d := nI_pos' (by omega)
    have a5 : (if nI d ≤ 0 then some (nI d, nI (p + 1)) else Option.bind (f_X2_digit N cs (nI L) (nI (p + 1))) (fun q9 => if q9 < 0 then some (nI d, nI (p + 1)) else Option.bind (f_X2_digit N cs (nI L) (nI (p + 1))) (fun q12 => some ((nI d * 10) + q12, nI (p + 1 + 1))))) = some (nI d, nI (p + 1)) := by
      by_cases e : nI d ≤ 0
      · rw [if_pos e]
      · rw [if_neg e, a3, Option.bind_some, if_pos (by decide)]
    have a6 := t_since (N := N) (F := F) (K := K) (v := d) (wn := wn) hN (by omega) hF (fun j j1 j2 hj => by
      obtain ⟨v, v1, v2, v3⟩ := hw j j2
      rw [v2] at hj
      have := (nI_eq (by omega) (by omega)).mp hj
      exact v3 j1 (by rw [this]; exact List.mem_cons_self))
    have a7 := t_tell (N := N) (K := K) (P := P) (p := p) (v := d) (tw := tw) (wn := wn) (wi := wi) (by omega) hP (by omega)
    have a8 := t_char (N := N) (p := p + 1) T (by omega)
    have a9 : nI (c (p + 1)) = 44 := by rw [h3]; rfl
    obtain ⟨tw', wn', wi', b1, b2, b3, b4⟩ := ih d2 (p + 1 + 1) (i + 1) m (K + 1) (upd tw P (tw P ||| bit d)) (upd wn K (nI d)) (upd wi K (nI p)) h4 (fun x hxx => hx x (List.mem_cons_of_mem _ hxx)) (List.nodup_cons.mp hnd).2 (by omega) (by omega) (by omega) (by omega) (by omega) (fun j hj => by
      by_cases ej : j = K
      · exact ⟨d, hd, by rw [ej, upd_s], fun _ => (List.nodup_cons.mp hnd).1⟩
      · obtain ⟨v, v1, v2, v3⟩ := hw j (by omega)
        exact ⟨v, v1, by rw [upd_n ej]; exact v2, fun hj hm => v3 hj (List.mem_cons_of_mem _ hm)⟩)
    refine ⟨tw', wn', wi', ?_, fun v hv => by rw [b2 v hv, upd_n hv], fun b hb => ?_, fun j hj => b4 j (by rw [hlen] at hj; omega)⟩
    · simp only [f_X2_lookAtWays_L7, if_neg a1, a2, Option.bind_some, if_pos a4, nI_1, a5, a6, if_true, a7, a8, if_pos a9, b1, hlen]
      rw [show p + 1 + 1 + 1 + 2 * ds.length = p + 1 + 2 * (ds.length + 1) from by omega, show K + 1 + 1 + ds.length = K + 1 + (ds.length + 1) from by omega]
    · rw [b3 b hb, upd_s, b_or, show bt (bit d) b = _ from bt_bit (by omega) hb, List.mem_cons (b := d)]
      simp only [Bool.or_eq_true, decide_eq_true_eq, or_assoc]
