def bt (x : Int32) (i : Nat) : Bool := x.toBitVec.getLsbD i
theorem b_ext {x y : Int32} (h : ∀ i, i < 32 → bt x i = bt y i) : x = y := Int32.toBitVec_inj.mp (BitVec.eq_of_getLsbD_eq (fun i hi => h i hi))
theorem b_or (x y : Int32) (i : Nat) : bt (x ||| y) i = (bt x i || bt y i) := by unfold bt; rw [Int32.toBitVec_or, BitVec.getLsbD_or]
theorem b_and (x y : Int32) (i : Nat) : bt (x &&& y) i = (bt x i && bt y i) := by unfold bt; rw [Int32.toBitVec_and, BitVec.getLsbD_and]
theorem b_xor (x y : Int32) (i : Nat) : bt (x ^^^ y) i = (bt x i ^^ bt y i) := by unfold bt; rw [Int32.toBitVec_xor, BitVec.getLsbD_xor]
theorem b_big {x : Int32} {i : Nat} (h : 32 ≤ i) : bt x i = false := BitVec.getLsbD_of_ge _ _ h
theorem b_255 (i : Nat) : bt 255 i = decide (i < 8) := by
  rcases Nat.lt_or_ge i 32 with h | h
  · exact (by decide +kernel : ∀ i, i < 32 → bt 255 i = decide (i < 8)) i h
  · rw [b_big h, decide_eq_false (by omega)]
theorem b_65535 (i : Nat) : bt 65535 i = decide (i < 16) := by
  rcases Nat.lt_or_ge i 32 with h | h
  · exact (by decide +kernel : ∀ i, i < 32 → bt 65535 i = decide (i < 16)) i h
  · rw [b_big h, decide_eq_false (by omega)]
theorem b_m1 : ∀ i, i < 32 → bt (-1) i = true := by decide +kernel
theorem b_0 (i : Nat) : bt 0 i = false := BitVec.getLsbD_zero
theorem s_l : ∀ n, n < 32 → ((nI n &&& 31).toBitVec.smod 32).toNat = n := by decide +kernel
theorem s_u : ∀ n, n < 32 → (((nI n).toUInt32 &&& Int32.toUInt32 31).toBitVec % 32).toNat = n := by decide +kernel
theorem b_shl (n : Nat) (hn : n < 32) (x : Int32) {i : Nat} (hi : i < 32) : bt (x <<< (nI n &&& 31)) i = (decide (n ≤ i) && bt x (i - n)) := by
  unfold bt
  rw [Int32.toBitVec_shiftLeft]
  show (x.toBitVec <<< ((nI n &&& 31).toBitVec.smod 32).toNat).getLsbD i = _
  rw [s_l n hn, BitVec.getLsbD_shiftLeft]
  rcases Nat.lt_or_ge i n with h | h
  · simp [h, Nat.not_le.mpr h]
  · simp [hi, h, Nat.not_lt.mpr h]
theorem b_ushr (n : Nat) (hn : n < 32) (x : Int32) (i : Nat) : bt ((x.toUInt32 >>> ((nI n).toUInt32 &&& Int32.toUInt32 31)).toInt32) i = bt x (n + i) := by
  show (x.toUInt32 >>> ((nI n).toUInt32 &&& Int32.toUInt32 31)).toBitVec.getLsbD i = x.toUInt32.toBitVec.getLsbD (n + i)
  rw [UInt32.toBitVec_shiftRight]
  show (x.toUInt32.toBitVec >>> (((nI n).toUInt32 &&& Int32.toUInt32 31).toBitVec % 32).toNat).getLsbD i = _
  rw [s_u n hn, BitVec.getLsbD_ushiftRight]
theorem b_sshr (n : Nat) (hn : n < 32) (x : Int32) {i : Nat} (hi : i < 32) : bt (x >>> (nI n &&& 31)) i = if n + i < 32 then bt x (n + i) else bt x 31 := by
  unfold bt
  rw [Int32.toBitVec_shiftRight]
  show (x.toBitVec.sshiftRight ((nI n &&& 31).toBitVec.smod 32).toNat).getLsbD i = _
  rw [s_l n hn, BitVec.getLsbD_sshiftRight, BitVec.msb_eq_getLsbD_last]
  simp [hi]
theorem b_shl8 (x : Int32) {i : Nat} (hi : i < 32) : bt (x <<< ((8 : Int32) &&& 31)) i = (decide (8 ≤ i) && bt x (i - 8)) := b_shl 8 (by omega) x hi
theorem b_shl16 (x : Int32) {i : Nat} (hi : i < 32) : bt (x <<< ((16 : Int32) &&& 31)) i = (decide (16 ≤ i) && bt x (i - 16)) := b_shl 16 (by omega) x hi
theorem b_shl24 (x : Int32) {i : Nat} (hi : i < 32) : bt (x <<< ((24 : Int32) &&& 31)) i = (decide (24 ≤ i) && bt x (i - 24)) := b_shl 24 (by omega) x hi
theorem b_sshr8 (x : Int32) {i : Nat} (hi : i < 32) : bt (x >>> ((8 : Int32) &&& 31)) i = if 8 + i < 32 then bt x (8 + i) else bt x 31 := b_sshr 8 (by omega) x hi

/-! sets as Int32: bits 0..11 -/
theorem b_1 : ∀ i, i < 32 → bt 1 i = decide (i = 0) := by decide +kernel
theorem bt_bit {k i : Nat} (hk : k < 32) (hi : i < 32) : bt (1 <<< (nI k &&& 31)) i = decide (i = k) := by
  rw [b_shl k hk 1 hi]
  by_cases h : k ≤ i
  · rw [b_1 _ (by omega)]
    by_cases e : i = k
    · subst e; simp
    · simp [e]; omega
  · have : ¬ i = k := by omega
    simp [h, this]
theorem bt_get {x : Int32} {k : Nat} (hk : k < 32) : ((x >>> (nI k &&& 31)) &&& 1) = if bt x k = true then 1 else 0 := by
  apply b_ext
  intro i hi
  rw [b_and, b_1 i hi, b_sshr k hk x hi]
  by_cases e : i = 0
  · subst e
    simp only [Nat.add_zero, hk, if_true, decide_true, Bool.and_true]
    by_cases h : bt x k = true
    · rw [if_pos h, b_1 0 (by omega), h]; rfl
    · rw [if_neg h, b_0]; simpa using h
  · simp only [e, decide_false, Bool.and_false]
    by_cases h : bt x k = true
    · rw [if_pos h, b_1 i hi]; simp [e]
    · rw [if_neg h, b_0]
theorem bt_all : ∀ n, n < 13 → ∀ i, i < 32 → bt ((1 <<< (nI n &&& 31)) - 1) i = decide (i < n) := by decide +kernel
theorem bt_not (x : Int32) {i : Nat} (hi : i < 32) : bt (x ^^^ (-1)) i = !bt x i := by
  rw [b_xor, b_m1 i hi]; cases bt x i <;> rfl
theorem bt_zero {x : Int32} : x = 0 ↔ ∀ i, i < 32 → bt x i = false := by
  constructor
  · intro h i _; rw [h, b_0]
  · intro h; apply b_ext; intro i hi; rw [h i hi, b_0]
theorem bt_ne {x : Int32} (h : ¬ x = 0) : ∃ i, i < 32 ∧ bt x i = true := by
  apply Classical.byContradiction
  intro hn
  apply h
  rw [bt_zero]
  intro i hi
  cases hb : bt x i with
  | false => rfl
  | true => exact absurd ⟨i, hi, hb⟩ hn
/-- within the first n places -/
def Sub (n : Nat) (x : Int32) : Prop := ∀ i, n ≤ i → i < 32 → bt x i = false
theorem Sub.lt {n : Nat} {x : Int32} (h : Sub n x) {i : Nat} (hb : bt x i = true) : i < n := by
  apply Classical.byContradiction
  intro hn
  by_cases hi : i < 32
  · rw [h i (by omega) hi] at hb; cases hb
  · rw [b_big (by omega)] at hb; cases hb
theorem Sub.and {n : Nat} {x y : Int32} (h : Sub n x) : Sub n (x &&& y) := fun i h1 h2 => by rw [b_and, h i h1 h2]; rfl
theorem Sub.or {n : Nat} {x y : Int32} (h : Sub n x) (h' : Sub n y) : Sub n (x ||| y) := fun i h1 h2 => by rw [b_or, h i h1 h2, h' i h1 h2]; rfl
theorem Sub.zero {n : Nat} : Sub n 0 := fun i _ _ => b_0 i
theorem Sub.bit {n k : Nat} (hk : k < n) (hn : n ≤ 32) : Sub n (1 <<< (nI k &&& 31)) := fun i h1 h2 => by rw [bt_bit (by omega) h2]; simp; omega
theorem Sub.all {n : Nat} (hn : n < 13) : Sub n ((1 <<< (nI n &&& 31)) - 1) := fun i h1 h2 => by rw [bt_all n hn i h2]; simp; omega
theorem Sub.mono {n m : Nat} {x : Int32} (h : Sub n x) (hm : n ≤ m) : Sub m x := fun i h1 h2 => h i (by omega) h2
theorem ext_n {n : Nat} {x y : Int32} (hx : Sub n x) (hy : Sub n y) (h : ∀ i, i < n → bt x i = bt y i) : x = y := by
  apply b_ext
  intro i hi
  by_cases e : i < n
  · exact h i e
  · rw [hx i (by omega) hi, hy i (by omega) hi]
theorem nat_of {x : Int32} (h : Sub 12 x) : ∃ v, v < 4096 ∧ x = nI v := by
  refine ⟨x.toBitVec.toNat, ?_, ?_⟩
  · show x.toBitVec.toNat < 2 ^ 12
    apply Nat.lt_pow_two_of_testBit
    intro i hi
    by_cases e : i < 32
    · exact h i hi e
    · exact BitVec.getLsbD_of_ge _ _ (by omega)
  · apply Int32.toBitVec_inj.mp
    show x.toBitVec = BitVec.ofNat 32 x.toBitVec.toNat
    simp
theorem Sub.of_nat : ∀ v, v < 4096 → ∀ i, 12 ≤ i → i < 32 → bt (nI v) i = false := by
  intro v hv i h1 h2
  show (BitVec.ofNat 32 v).getLsbD i = false
  rw [BitVec.getLsbD_ofNat]
  have : v.testBit i = false := Nat.testBit_lt_two_pow (Nat.lt_of_lt_of_le hv (show 2 ^ 12 ≤ 2 ^ i from Nat.pow_le_pow_right (by omega) h1))
  rw [this]; simp
/-- how many of the first n -/
def cn (f : Nat → Bool) : Nat → Nat
  | 0 => 0
  | n + 1 => cn f n + (if f n = true then 1 else 0)
theorem cn_le (f : Nat → Bool) (n : Nat) : cn f n ≤ n := by
  induction n with
  | zero => exact Nat.le_refl 0
  | succ n ih => simp only [cn]; split <;> omega
theorem cn_mono {f g : Nat → Bool} {n : Nat} (h : ∀ i, i < n → f i = true → g i = true) : cn f n ≤ cn g n := by
  induction n with
  | zero => exact Nat.le_refl 0
  | succ n ih =>
    have h1 := ih (fun i hi => h i (by omega))
    simp only [cn]
    by_cases e : f n = true
    · rw [if_pos e, if_pos (h n (by omega) e)]; omega
    · rw [if_neg e]; split <;> omega
theorem cn_lt {f g : Nat → Bool} {n k : Nat} (h : ∀ i, i < n → f i = true → g i = true) (hk : k < n) (h1 : f k = false) (h2 : g k = true) : cn f n < cn g n := by
  induction n with
  | zero => omega
  | succ n ih =>
    have hm := cn_mono (fun i hi => h i (by omega : i < n + 1)) (n := n)
    simp only [cn]
    by_cases e : k = n
    · subst e
      rw [if_pos h2, if_neg (by rw [h1]; simp)]; omega
    · have h3 := ih (fun i hi => h i (by omega)) (by omega)
      by_cases e : f n = true
      · rw [if_pos e, if_pos (h n (by omega) e)]; omega
      · rw [if_neg e]; split <;> omega
theorem cn_congr {f g : Nat → Bool} {n : Nat} (h : ∀ i, i < n → f i = g i) : cn f n = cn g n := by
  induction n with
  | zero => rfl
  | succ n ih => simp only [cn]; rw [ih (fun i hi => h i (by omega)), h n (by omega)]
theorem cn_pos {f : Nat → Bool} {n k : Nat} (hk : k < n) (h : f k = true) : 0 < cn f n := by
  have := cn_lt (f := fun _ => false) (g := f) (n := n) (k := k) (fun _ _ h => by cases h) hk rfl h
  omega
/-! numbers -/
theorem gi_ok {k n : Nat} (h : k < n) (hn : n < 2 ^ 31) : gi (nI k) n = true := by
  unfold gi
  rw [nI_toInt (by omega)]
  simp; omega
theorem chk_t {α : Type} {b : Bool} {k : Option α} (h : b = true) : chk b k = k := by unfold chk; rw [if_pos h]
theorem nI_ne {a b : Nat} (ha : a < 2 ^ 31) (hb : b < 2 ^ 31) (h : a ≠ b) : ¬ nI a = nI b := fun e => h ((nI_eq ha hb).mp e)
/-- a loop that comes to an end: k is what is left of its rounds -/
theorem loop_inv {σ β : Type} (F : Nat → σ → Option β) (I : Nat → σ → Prop) (P : β → Prop) (h0 : ∀ m s, I 0 s → ∃ b, F (m + 1) s = some b ∧ P b)
    (hs : ∀ m k s, I (k + 1) s → (∃ b, F (m + 1) s = some b ∧ P b) ∨ ∃ s', F (m + 1) s = F m s' ∧ I k s') : ∀ k m s, k < m → I k s → ∃ b, F m s = some b ∧ P b := by
  intro k
  induction k with
  | zero =>
    intro m s hm hi
    obtain ⟨m, rfl⟩ : ∃ m', m = m' + 1 := ⟨m - 1, by omega⟩
    exact h0 m s hi
  | succ k ih =>
    intro m s hm hi
    obtain ⟨m, rfl⟩ : ∃ m', m = m' + 1 := ⟨m - 1, by omega⟩
    rcases hs m k s hi with h | ⟨s', e, hi'⟩
    · exact h
    · rw [e]; exact ih m s' (by omega) hi'
/-- a loop over the places k .. n - 1 -/
theorem for_inv {σ β : Type} (F : Nat → Int32 → σ → Option β) (n : Nat) (I : Nat → σ → Prop) (P : β → Prop) (he : ∀ m s, I n s → ∃ b, F (m + 1) (nI n) s = some b ∧ P b)
    (hs : ∀ m k s, k < n → I k s → (∃ b, F (m + 1) (nI k) s = some b ∧ P b) ∨ ∃ s', F (m + 1) (nI k) s = F m (nI (k + 1)) s' ∧ I (k + 1) s') : ∀ k m s, k ≤ n → n - k < m → I k s → ∃ b, F m (nI k) s = some b ∧ P b := by
  intro k m s hk hm hi
  obtain ⟨b, h1, h2⟩ := loop_inv (fun m (t : Nat × σ) => F m (nI t.1) t.2) (fun j t => t.1 + j = n ∧ I t.1 t.2) P
    (fun m t ht => by
      obtain ⟨j, s⟩ := t
      obtain ⟨h1, h2⟩ := ht
      have e : j = n := by simpa using h1
      subst e
      exact he m s h2)
    (fun m j t ht => by
      obtain ⟨i, s⟩ := t
      obtain ⟨h1, h2⟩ := ht
      have h1 : i + (j + 1) = n := h1
      rcases hs m i s (by omega) h2 with h | ⟨s', e, hi'⟩
      · exact Or.inl h
      · exact Or.inr ⟨(i + 1, s'), e, by show i + 1 + j = n; omega, hi'⟩)
    (n - k) m (k, s) hm ⟨by show k + (n - k) = n; omega, hi⟩
  exact ⟨b, h1, h2⟩
theorem eqL {a b : Nat} (ha : a < 2 ^ 31) (hb : b < 2 ^ 31) : (nI a ≤ nI b) ↔ a ≤ b := nI_leI ha hb
theorem f_contains {N : Nat} {x : Int32} {k : Nat} (hk : k < 32) : f_X3_contains N x (nI k) = some (if bt x k = true then 1 else 0) := by
  unfold f_X3_contains
  rw [bt_get hk]
  cases bt x k <;> rfl
theorem bc_dec0 : ∀ a, a < 64 → ∀ b, b < 64 → f_J6_bitCount_0f7a4 0 (nI (64 * a + b)) = some (nI (cn (bt (nI (64 * a + b))) 12)) := by decide +kernel
theorem bc_dec (v : Nat) (h : v < 4096) : f_J6_bitCount_0f7a4 0 (nI v) = some (nI (cn (bt (nI v)) 12)) := by
  have e : v = 64 * (v / 64) + v % 64 := by omega
  rw [e]
  exact bc_dec0 _ (by omega) _ (by omega)
theorem f_bitCount {N : Nat} {x : Int32} (h : Sub 12 x) : f_J6_bitCount_0f7a4 N x = some (nI (cn (bt x) 12)) := by
  obtain ⟨v, hv, rfl⟩ := nat_of h
  exact bc_dec v hv
/-- the least place of a set, 12 if there is none -/
def low (f : Nat → Bool) : Nat → Nat → Nat
  | 0, k => k
  | j + 1, k => if f k = true then k else low f j (k + 1)
theorem tz_dec0 : ∀ a, a < 64 → ∀ b, b < 64 → 64 * a + b ≠ 0 → f_J6_numberOfTrailingZeros_0f7a4 0 (nI (64 * a + b)) = some (nI (low (bt (nI (64 * a + b))) 12 0)) := by decide +kernel
theorem tz_dec (v : Nat) (h : v < 4096) (h0 : v ≠ 0) : f_J6_numberOfTrailingZeros_0f7a4 0 (nI v) = some (nI (low (bt (nI v)) 12 0)) := by
  have e : v = 64 * (v / 64) + v % 64 := by omega
  rw [e]
  exact tz_dec0 _ (by omega) _ (by omega) (by omega)
theorem f_tz {N : Nat} {x : Int32} (h : Sub 12 x) (h0 : ¬ x = 0) : f_J6_numberOfTrailingZeros_0f7a4 N x = some (nI (low (bt x) 12 0)) := by
  obtain ⟨v, hv, rfl⟩ := nat_of h
  exact tz_dec v hv (fun e => h0 (by rw [e]; rfl))
