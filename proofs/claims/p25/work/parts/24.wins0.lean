/-! winsOf0: a set, a certificate of player 0 on it, one of player 1 on what is left -/
def WinS (n : Nat) (o r w : Nat → Int32) (R : Int32) : Prop := Sub n R ∧ (∃ f, Cert 0 n (owN o) (rkN r) (wyB w) (fun _ => true) (bt R) f) ∧ ∃ f, Cert 1 n (owN o) (rkN r) (wyB w) (fun _ => true) (fun v => !bt R v) f
theorem win_in {n : Nat} {o r w : Nat → Int32} {R : Int32} (V : VF n o r w) (h : WinS n o r w R) {S : Nat → Bool} {f : Nat → Nat} (hc : Cert 0 n (owN o) (rkN r) (wyB w) (fun _ => true) S f) {v : Nat} (hv : v < n) (hs : S v = true) : bt R v = true := by
  obtain ⟨-, -, g, h1⟩ := h
  apply Classical.byContradiction
  intro hn
  exact cert_disj (fun v hv => (V.2 v hv).2.1.2) (fun v _ => owN_lt) hc h1 v hv hs (by rw [bf hn]; rfl)
theorem win_out {n : Nat} {o r w : Nat → Int32} {R : Int32} (V : VF n o r w) (h : WinS n o r w R) {S : Nat → Bool} {f : Nat → Nat} (hc : Cert 1 n (owN o) (rkN r) (wyB w) (fun _ => true) S f) {v : Nat} (hv : v < n) (hs : S v = true) : bt R v = false := by
  obtain ⟨-, ⟨g, h1⟩, -⟩ := h
  apply bf
  intro hn
  exact cert_disj (fun v hv => (V.2 v hv).2.1.2) (fun v _ => owN_lt) h1 hc v hv hn hs
theorem win_uniq {n : Nat} {o r w : Nat → Int32} {R R' : Int32} (V : VF n o r w) (h : WinS n o r w R) (h' : WinS n o r w R') : R = R' := by
  apply ext_n h.1 h'.1
  intro v hv
  obtain ⟨-, ⟨f, h1⟩, ⟨g, h2⟩⟩ := h
  cases hR : bt R v with
  | true => exact (win_in V h' h1 hv hR).symm
  | false => exact (win_out V h' h2 hv (by rw [hR]; rfl)).symm
theorem top_cert {i j n : Nat} {o r w : Nat → Int32} {all ends Y Z W : Nat → Bool} {l lz g : Nat → Nat} (hij : i ≠ j) (ho : ∀ v, v < n → owN o v = i ∨ owN o v = j) (hr : ∀ v, v < n → rkN r v ≤ 6)
    (hall : ∀ v, v < n → all v = true) (he : ∀ v, v < n → ends v = true → owN o v = j ∧ ∀ u, wyB w v u = false) {endz : Nat → Bool}
    (hY : PullS i n (owN o) (wyB w) all ends Y l) (hZ : PullS j n (owN o) (wyB w) all endz Z lz) (hd : ∀ v, v < n → Y v = true → Z v = true → False)
    (hW : Cert i n (owN o) (rkN r) (wyB w) (fun v => !Y v && !Z v) W g) : ∃ f, Cert i n (owN o) (rkN r) (wyB w) (fun _ => true) (fun v => Y v || W v) f := by
  obtain ⟨y1, y2, y3, y4⟩ := hY
  have hP0 : 0 < 256 ^ 6 := Nat.pow_pos (by omega)
  obtain ⟨f, f1, f2⟩ : ∃ f : Nat → Nat, (∀ v, Y v = true → f v = l v * 256 ^ 6) ∧ (∀ v, Y v = false → f v = 13 * 256 ^ 6 + g v) := ⟨fun v => if Y v = true then l v * 256 ^ 6 else 13 * 256 ^ 6 + g v, fun v h => if_pos h, fun v h => if_neg (by rw [h]; simp)⟩
  refine ⟨f, fun v hv hs => ⟨rfl, ?_⟩⟩
  have hs : (Y v || W v) = true := hs
  by_cases hyv : Y v = true
  · have hdn : ∀ u, Y u = true → l u < l v → dn i (rkN r) f v u := fun u hyu hl => dn_lt (c := l v) (e := 6) (by rw [f1 u hyu]; exact Nat.mul_lt_mul_of_pos_right hl hP0) (by rw [f1 v hyv]; exact Nat.le_refl _) (hr v hv)
    by_cases hev : ends v = true
    · obtain ⟨e1, e2⟩ := he v hv hev
      exact ⟨fun h => absurd (h.symm.trans e1) hij, fun _ u hu hw => by rw [e2 u] at hw; cases hw⟩
    · obtain ⟨z1, z2, z3⟩ := y3 v hv hyv (bf hev)
      refine ⟨fun h => ?_, fun h u hu hw _ => ?_⟩
      · obtain ⟨u, u1, u2, u3, u4⟩ := z2 h
        exact ⟨u, u1, u2, by show (Y u || W u) = true; rw [u3]; rfl, hdn u u3 u4⟩
      · obtain ⟨u3, u4⟩ := z3 h u hu hw (hall u hu)
        exact ⟨by show (Y u || W u) = true; rw [u3]; rfl, hdn u u3 u4⟩
  · have hyv := bf hyv
    have hwv : W v = true := by rw [hyv] at hs; simpa using hs
    obtain ⟨w0, w1, w2⟩ := hW v hv hwv
    have hzv : Z v = false := by
      have h0 := bat2 w0
      have := h0.2
      cases hz : Z v with
      | false => rfl
      | true => rw [hz] at this; cases this
    have inA : ∀ u, u < n → W u = true → Y u = false := fun u hu h => by
      have h0 := (bat2 (hW u hu h).1).1
      cases hy : Y u with
      | false => rfl
      | true => rw [hy] at h0; cases h0
    refine ⟨fun h => ?_, fun h u hu hw _ => ?_⟩
    · obtain ⟨u, u1, u2, u3, u4⟩ := w1 h
      exact ⟨u, u1, u2, by show (Y u || W u) = true; rw [u3]; simp, dn_sh u4 (f2 v hyv) (f2 u (inA u u1 u3)) (hr v hv)⟩
    · have hj : owN o v = j := by
        rcases ho v hv with h' | h'
        · exact absurd h' h
        · exact h'
      have hzu : Z u = false := (hZ.2.2.2 v hv (hall v hv) hzv).1 hj u hu hw
      by_cases hyu : Y u = true
      · refine ⟨by show (Y u || W u) = true; rw [hyu]; rfl, dn_lt (c := 13) (e := 6) ?_ ?_ (hr v hv)⟩
        · rw [f1 u hyu]
          have := (y2 u hu hyu).2
          exact Nat.mul_lt_mul_of_pos_right (by omega) hP0
        · rw [f2 v hyv]; exact Nat.le_add_right _ _
      · have hyu := bf hyu
        obtain ⟨u3, u4⟩ := w2 h u hu hw (by show (!Y u && !Z u) = true; rw [hyu, hzu]; rfl)
        exact ⟨by show (Y u || W u) = true; rw [u3]; simp, dn_sh u4 (f2 v hyv) (f2 u hyu) (hr v hv)⟩
theorem p_winsOf0 {N n : Nat} {o r w : Nat → Int32} (hN : 14 ≤ N) (V : VF n o r w) : ∃ R, f_X1_winsOf0 N o r w (nI n) = some R ∧ WinS n o r w R := by
  obtain ⟨hn, hV⟩ := id V
  have ho : ∀ k, k < n → o k = 0 ∨ o k = 1 := fun k hk => (hV k hk).1
  have hr6 : ∀ v, v < n → rkN r v < 6 := fun v hv => (hV v hv).2.1.2
  have hall : ∀ v, v < n → bt ((1 <<< (nI n &&& 31)) - 1) v = true := fun v hv => by rw [bt_all n (by omega) v (by omega)]; simp [hv]
  have hallS : Sub n ((1 <<< (nI n &&& 31)) - 1) := Sub.all (by omega)
  obtain ⟨e1, he1, hb1⟩ := p_endsOf (N := N) (n := n) (o := o) (w := w) (i := 1) (by omega) hn
  obtain ⟨e0, he0, hb0⟩ := p_endsOf (N := N) (n := n) (o := o) (w := w) (i := 0) (by omega) hn
  have sub1 : ∀ b, bt e1 b = true → bt ((1 <<< (nI n &&& 31)) - 1) b = true := by
    intro b hb
    by_cases h32 : b < 32
    · rw [hb1 b h32] at hb
      exact hall b (of_decide_eq_true (bat2 hb).1)
    · rw [b_big (by omega)] at hb; cases hb
  have sub0 : ∀ b, bt e0 b = true → bt ((1 <<< (nI n &&& 31)) - 1) b = true := by
    intro b hb
    by_cases h32 : b < 32
    · rw [hb0 b h32] at hb
      exact hall b (of_decide_eq_true (bat2 hb).1)
    · rw [b_big (by omega)] at hb; cases hb
  obtain ⟨Y, ly, hy, hyS, hyP⟩ := p_pull (N := N) (n := n) (i := 0) (set := e1) (arena := (1 <<< (nI n &&& 31)) - 1) (o := o) (w := w) (by omega) hn (by omega) ho hallS sub1
  obtain ⟨Z, lz, hz, hzS, hzP⟩ := p_pull (N := N) (n := n) (i := 1) (set := e0) (arena := (1 <<< (nI n &&& 31)) - 1) (o := o) (w := w) (by omega) hn (by omega) ho hallS sub0
  have he1' : ∀ v, v < n → bt e1 v = true → owN o v = 1 ∧ ∀ u, wyB w v u = false := by
    intro v hv h
    rw [hb1 v (by omega)] at h
    obtain ⟨-, h⟩ := bat2 h
    obtain ⟨h1, h2⟩ := bat2 h
    have h1 : w v = 0 := of_decide_eq_true h1
    exact ⟨(owN_eq (i := 1) (ho v hv) (by omega)).mp (of_decide_eq_true h2), fun u => by unfold wyB; rw [h1, b_0]⟩
  have he0' : ∀ v, v < n → bt e0 v = true → owN o v = 0 ∧ ∀ u, wyB w v u = false := by
    intro v hv h
    rw [hb0 v (by omega)] at h
    obtain ⟨-, h⟩ := bat2 h
    obtain ⟨h1, h2⟩ := bat2 h
    have h1 : w v = 0 := of_decide_eq_true h1
    exact ⟨(owN_eq (i := 0) (ho v hv) (by omega)).mp (of_decide_eq_true h2), fun u => by unfold wyB; rw [h1, b_0]⟩
  -- each player's pulled region has a certificate: they are apart
  have cert1 : ∀ {i j : Nat} {e X : Int32} {l : Nat → Nat}, i ≠ j → (∀ v, v < n → bt e v = true → owN o v = j ∧ ∀ u, wyB w v u = false) → PullS i n (owN o) (wyB w) (bt ((1 <<< (nI n &&& 31)) - 1)) (bt e) (bt X) l → Cert i n (owN o) (rkN r) (wyB w) (fun _ => true) (bt X) (fun v => l v * 256 ^ 6) := by
    intro i j e X l hij he hP v hv hx
    obtain ⟨-, -, y3, -⟩ := hP
    have hP0 : 0 < 256 ^ 6 := Nat.pow_pos (by omega)
    refine ⟨rfl, ?_⟩
    have hdn : ∀ u, l u < l v → dn i (rkN r) (fun v => l v * 256 ^ 6) v u := fun u hl => dn_lt (c := l v) (e := 6) (Nat.mul_lt_mul_of_pos_right hl hP0) (Nat.le_refl _) (by have := hr6 v hv; omega)
    by_cases hev : bt e v = true
    · obtain ⟨e1, e2⟩ := he v hv hev
      exact ⟨fun h => absurd (h.symm.trans e1) hij, fun _ u hu hw => by rw [e2 u] at hw; cases hw⟩
    · obtain ⟨z1, z2, z3⟩ := y3 v hv hx (bf hev)
      refine ⟨fun h => ?_, fun h u hu hw _ => ?_⟩
      · obtain ⟨u, u1, u2, u3, u4⟩ := z2 h
        exact ⟨u, u1, u2, u3, hdn u u4⟩
      · obtain ⟨u3, u4⟩ := z3 h u hu hw (hall u hu)
        exact ⟨u3, hdn u u4⟩
  have apart : ∀ v, v < n → bt Y v = true → bt Z v = true → False := cert_disj hr6 (fun v _ => owN_lt) (cert1 (by omega) he1' hyP) (cert1 (by omega) he0' hzP)
  generalize hAr : (((1 <<< (nI n &&& 31)) - 1) &&& (Y ^^^ (-1))) &&& (Z ^^^ (-1)) = ar
  have har : ∀ v, v < n → bt ar v = (!bt Y v && !bt Z v) := by
    intro v hv
    rw [← hAr, b_diff (by omega), b_diff (by omega), hall v hv]; rfl
  have harS : Sub n ar := by rw [← hAr]; exact hallS.and.and
  have hara : ∀ v, v < n → bt ar v = true → ∃ u, u < n ∧ wyB w v u = true ∧ bt ar u = true := by
    intro v hv h
    rw [har v hv] at h
    have hyv : bt Y v = false := by cases hb : bt Y v with
      | false => rfl
      | true => rw [hb] at h; cases h
    have hzv : bt Z v = false := by cases hb : bt Z v with
      | false => rfl
      | true => rw [hyv, hb] at h; cases h
    have hne : ∃ u, u < n ∧ wyB w v u = true := by
      apply Classical.byContradiction
      intro hno
      have hw0 : w v = 0 := by
        rw [bt_zero]
        intro u hu
        apply bf
        intro hb
        exact hno ⟨u, (hV v hv).2.2.lt hb, hb⟩
      rcases ho v hv with h0 | h1
      · have : bt e0 v = true := by rw [hb0 v (by omega), hw0, h0]; simp [hv]
        rw [hzP.1 v hv this] at hzv; cases hzv
      · have : bt e1 v = true := by rw [hb1 v (by omega), hw0, h1]; simp [hv]
        rw [hyP.1 v hv this] at hyv; cases hyv
    have fin : ∀ u, u < n → wyB w v u = true → bt Y u = false → bt Z u = false → ∃ u, u < n ∧ wyB w v u = true ∧ bt ar u = true := fun u hu hw h1 h2 => ⟨u, hu, hw, by rw [har u hu, h1, h2]; rfl⟩
    obtain ⟨a1, a2⟩ := hyP.2.2.2 v hv (hall v hv) hyv
    obtain ⟨b1, b2⟩ := hzP.2.2.2 v hv (hall v hv) hzv
    obtain ⟨u, hu, hw⟩ := hne
    rcases (owN_lt : owN o v = 0 ∨ owN o v = 1) with e | e
    · rcases b2 (by omega) with q | ⟨u', q1, q2, q3, q4⟩
      · exact fin u hu hw (a1 e u hu hw) (q u hu hw (hall u hu))
      · exact fin u' q1 q2 (a1 e u' q1 q2) q4
    · rcases a2 (by omega) with q | ⟨u', q1, q2, q3, q4⟩
      · exact fin u hu hw (q u hu hw (hall u hu)) (b1 e u hu hw)
      · exact fin u' q1 q2 q4 (b1 e u' q1 q2)
  obtain ⟨W, hw, hwS, hwsub, ⟨g, hg, -⟩, ⟨g', hg', -⟩⟩ := p_ww hN V 6 (Nat.le_refl _) 8 (by omega) 0 (by omega) ar harS hara (fun v hv _ => hr6 v hv)
  refine ⟨Y ||| W, ?_, hyS.or hwS, ?_, ?_⟩
  · have hrun : f_X1_winsWithin N 8 0 ar 5 o r w (nI n) = some W := hw
    have hy' : f_X1_pull N 0 e1 ((1 <<< (nI n &&& 31)) - 1) o w (nI n) = some Y := hy
    have hz' : f_X1_pull N 1 e0 ((1 <<< (nI n &&& 31)) - 1) o w (nI n) = some Z := hz
    simp only [f_X1_winsOf0, f_X0_all, he1, he0, Option.bind_some, hy', hz', hAr, hrun]
  · obtain ⟨f, hf⟩ := top_cert (i := 0) (j := 1) (by omega) (fun v _ => owN_lt) (fun v hv => Nat.le_of_lt (hr6 v hv)) hall he1' hyP hzP apart (cert_ext har (fun _ _ => rfl) hg)
    exact ⟨f, cert_ext (fun _ _ => rfl) (fun v hv => by rw [b_or]) hf⟩
  · obtain ⟨f, hf⟩ := top_cert (i := 1) (j := 0) (by omega) (fun v _ => (owN_lt : owN o v = 0 ∨ owN o v = 1).symm) (fun v hv => Nat.le_of_lt (hr6 v hv)) hall he0' hzP hyP (fun v hv a b => apart v hv b a) (W := fun v => bt ar v && !bt W v) (cert_ext (fun v hv => by rw [har v hv, Bool.and_comm]) (fun _ _ => rfl) hg')
    refine ⟨f, cert_ext (fun _ _ => rfl) (fun v hv => ?_) hf⟩
    show (bt Z v || (bt ar v && !bt W v)) = !bt (Y ||| W) v
    rw [b_or, har v hv]
    cases hY : bt Y v with
    | true =>
      cases hZ : bt Z v with
      | true => exact (apart v hv hY hZ).elim
      | false => rfl
    | false =>
      cases hZ : bt Z v with
      | true =>
        have : bt W v = false := bf (fun h => by
          have := hwsub v h
          rw [har v hv, hY, hZ] at this
          cases this)
        rw [this]; rfl
      | false => cases bt W v <;> rfl
