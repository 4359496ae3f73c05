/-! ===== Int32 by its bits: bt x i ===== -/
def bt (x : Int32) (i : Nat) : Bool := x.toBitVec.getLsbD i
theorem b_ext {x y : Int32} (h : ∀ i, i < 32 → bt x i = bt y i) : x = y := Int32.toBitVec_inj.mp (BitVec.eq_of_getLsbD_eq (fun i hi => h i hi))
theorem b_or (x y : Int32) (i : Nat) : bt (x ||| y) i = (bt x i || bt y i) := by unfold bt; rw [Int32.toBitVec_or, BitVec.getLsbD_or]
theorem b_and (x y : Int32) (i : Nat) : bt (x &&& y) i = (bt x i && bt y i) := by unfold bt; rw [Int32.toBitVec_and, BitVec.getLsbD_and]
theorem b_xor (x y : Int32) (i : Nat) : bt (x ^^^ y) i = (bt x i ^^ bt y i) := by unfold bt; rw [Int32.toBitVec_xor, BitVec.getLsbD_xor]
theorem b_big {x : Int32} {i : Nat} (h : 32 ≤ i) : bt x i = false := BitVec.getLsbD_of_ge _ _ h
theorem b_255 (i : Nat) : bt 255 i = decide (i < 8) := by
  rcases Nat.lt_or_ge i 32 with h | h
  · exact (by decide +kernel : ∀ i, i < 32 → bt 255 i = decide (i < 8)) i h
  · rw [b_big h, decide_eq_false (by omega)]
theorem b_65535 (i : Nat) : bt 65535 i = decide (i < 16) := by
  rcases Nat.lt_or_ge i 32 with h | h
  · exact (by decide +kernel : ∀ i, i < 32 → bt 65535 i = decide (i < 16)) i h
  · rw [b_big h, decide_eq_false (by omega)]
theorem b_m1 : ∀ i, i < 32 → bt (-1) i = true := by decide +kernel
theorem b_0 (i : Nat) : bt 0 i = false := BitVec.getLsbD_zero
theorem s_l : ∀ n, n < 32 → ((nI n &&& 31).toBitVec.smod 32).toNat = n := by decide +kernel
theorem s_u : ∀ n, n < 32 → (((nI n).toUInt32 &&& Int32.toUInt32 31).toBitVec % 32).toNat = n := by decide +kernel
theorem b_shl (n : Nat) (hn : n < 32) (x : Int32) {i : Nat} (hi : i < 32) : bt (x <<< (nI n &&& 31)) i = (decide (n ≤ i) && bt x (i - n)) := by
  unfold bt
  rw [Int32.toBitVec_shiftLeft]
  show (x.toBitVec <<< ((nI n &&& 31).toBitVec.smod 32).toNat).getLsbD i = _
  rw [s_l n hn, BitVec.getLsbD_shiftLeft]
  rcases Nat.lt_or_ge i n with h | h
  · simp [h, Nat.not_le.mpr h]
  · simp [hi, h, Nat.not_lt.mpr h]
theorem b_ushr (n : Nat) (hn : n < 32) (x : Int32) (i : Nat) : bt ((x.toUInt32 >>> ((nI n).toUInt32 &&& Int32.toUInt32 31)).toInt32) i = bt x (n + i) := by
  show (x.toUInt32 >>> ((nI n).toUInt32 &&& Int32.toUInt32 31)).toBitVec.getLsbD i = x.toUInt32.toBitVec.getLsbD (n + i)
  rw [UInt32.toBitVec_shiftRight]
  show (x.toUInt32.toBitVec >>> (((nI n).toUInt32 &&& Int32.toUInt32 31).toBitVec % 32).toNat).getLsbD i = _
  rw [s_u n hn, BitVec.getLsbD_ushiftRight]
theorem b_sshr (n : Nat) (hn : n < 32) (x : Int32) {i : Nat} (hi : i < 32) : bt (x >>> (nI n &&& 31)) i = if n + i < 32 then bt x (n + i) else bt x 31 := by
  unfold bt
  rw [Int32.toBitVec_shiftRight]
  show (x.toBitVec.sshiftRight ((nI n &&& 31).toBitVec.smod 32).toNat).getLsbD i = _
  rw [s_l n hn, BitVec.getLsbD_sshiftRight, BitVec.msb_eq_getLsbD_last]
  simp [hi]
theorem b_shl8 (x : Int32) {i : Nat} (hi : i < 32) : bt (x <<< ((8 : Int32) &&& 31)) i = (decide (8 ≤ i) && bt x (i - 8)) := b_shl 8 (by omega) x hi
theorem b_shl16 (x : Int32) {i : Nat} (hi : i < 32) : bt (x <<< ((16 : Int32) &&& 31)) i = (decide (16 ≤ i) && bt x (i - 16)) := b_shl 16 (by omega) x hi
theorem b_shl24 (x : Int32) {i : Nat} (hi : i < 32) : bt (x <<< ((24 : Int32) &&& 31)) i = (decide (24 ≤ i) && bt x (i - 24)) := b_shl 24 (by omega) x hi
theorem b_sshr8 (x : Int32) {i : Nat} (hi : i < 32) : bt (x >>> ((8 : Int32) &&& 31)) i = if 8 + i < 32 then bt x (8 + i) else bt x 31 := b_sshr 8 (by omega) x hi
/-! sets by their bits -/
theorem b_not (x : Int32) {i : Nat} (h : i < 32) : bt (x ^^^ (-1)) i = !bt x i := by rw [b_xor, b_m1 i h]; simp
theorem sub_iff {p x : Int32} : sub p x ↔ ∀ i, i < 32 → bt p i = true → bt x i = true := by
  constructor
  · intro h i hi hp
    have e := congrArg (fun z => bt z i) (show (p &&& (x ^^^ (-1))) = 0 from h)
    simp only [b_and, b_not x hi, b_0, hp, Bool.true_and, Bool.not_eq_false'] at e
    exact e
  · intro h
    refine b_ext fun i hi => ?_
    rw [b_and, b_not x hi, b_0]
    cases hp : bt p i with
    | false => rfl
    | true => rw [h i hi hp]; rfl
def pw (f : Nat) : Int32 := (1 : Int32) <<< (nI f &&& 31)
theorem b_1 : ∀ i, i < 32 → bt 1 i = decide (i = 0) := by decide +kernel
theorem b_pw {f i : Nat} (hf : f < 32) (hi : i < 32) : bt (pw f) i = decide (i = f) := by
  unfold pw
  rw [b_shl f hf 1 hi]
  rcases Nat.lt_or_ge i f with h | h
  · rw [decide_eq_false (by omega : ¬ f ≤ i), decide_eq_false (by omega)]; rfl
  · rw [decide_eq_true h, b_1 (i - f) (by omega)]
    by_cases e : i = f
    · rw [decide_eq_true e, decide_eq_true (by omega)]; rfl
    · rw [decide_eq_false e, decide_eq_false (by omega)]; rfl
theorem b_zero {x : Int32} : x = 0 ↔ ∀ i, i < 32 → bt x i = false := ⟨fun h i _ => by rw [h, b_0], fun h => b_ext fun i hi => by rw [h i hi, b_0]⟩
theorem and_pw {m : Int32} {f : Nat} (hf : f < 32) : (m &&& pw f) = 0 ↔ bt m f = false := by
  rw [b_zero]
  constructor
  · intro h
    have := h f hf
    rw [b_and, b_pw hf hf, decide_eq_true rfl, Bool.and_true] at this
    exact this
  · intro h i hi
    rw [b_and, b_pw hf hi]
    by_cases e : i = f
    · subst e; rw [h]; rfl
    · rw [decide_eq_false e, Bool.and_false]
theorem sub_pw {x : Int32} {f : Nat} (hf : f < 32) : sub (pw f) x ↔ bt x f = true := by
  rw [sub_iff]
  constructor
  · intro h
    exact h f hf (by rw [b_pw hf hf, decide_eq_true rfl])
  · intro h i hi hp
    rw [b_pw hf hi] at hp
    rw [of_decide_eq_true hp]; exact h
theorem shr_bit {m : Int32} {f : Nat} (hf : f < 32) : ((m >>> (nI f &&& 31)) &&& 1) = 1 ↔ bt m f = true := by
  have key : ∀ i, i < 32 → bt ((m >>> (nI f &&& 31)) &&& 1) i = (decide (i = 0) && bt m f) := by
    intro i hi
    rw [b_and, b_1 i hi, b_sshr f hf m hi]
    by_cases e : i = 0
    · subst e; simp [hf]
    · rw [decide_eq_false e]; simp
  constructor
  · intro h
    have := key 0 (by omega)
    rw [h, b_1 0 (by omega)] at this
    simpa using this
  · intro h
    refine b_ext fun i hi => ?_
    rw [key i hi, b_1 i hi, h]; simp
theorem shr_bit0 {m : Int32} {f : Nat} (hf : f < 32) : ((m >>> (nI f &&& 31)) &&& 1) = if bt m f = true then 1 else 0 := by
  by_cases h : bt m f = true
  · rw [if_pos h]; exact (shr_bit hf).mpr h
  · rw [if_neg h]
    have h : bt m f = false := by simpa using h
    refine b_ext fun i hi => ?_
    rw [b_and, b_1 i hi, b_sshr f hf m hi, b_0]
    by_cases e : i = 0
    · subst e; simp [hf, h]
    · rw [decide_eq_false e]; simp
/-- a set of facts -/
def s30 (x : Int32) : Prop := (x &&& (-1073741824)) = 0
theorem b_hi : ∀ i, i < 32 → bt (-1073741824) i = decide (30 ≤ i) := by decide +kernel
theorem b_lo : ∀ i, i < 32 → bt 1073741823 i = decide (i < 30) := by decide +kernel
theorem s30_b {x : Int32} : s30 x ↔ ∀ i, 30 ≤ i → i < 32 → bt x i = false := by
  unfold s30
  rw [b_zero]
  constructor
  · intro h i h1 h2
    have := h i h2
    rw [b_and, b_hi i h2, decide_eq_true h1, Bool.and_true] at this
    exact this
  · intro h i hi
    rw [b_and, b_hi i hi]
    by_cases e : 30 ≤ i
    · rw [h i e hi]; rfl
    · rw [decide_eq_false e, Bool.and_false]
theorem s30_n {x : Int32} : s30 x ↔ ∃ j, j < 1073741824 ∧ x = nI j := by
  have hm : (1073741823 : Int32).toBitVec.toNat = 2 ^ 30 - 1 := by decide
  constructor
  · intro h
    rw [s30_b] at h
    refine ⟨x.toBitVec.toNat % 2 ^ 30, Nat.mod_lt _ (by decide), ?_⟩
    rw [← pk_and x 30 hm]
    refine b_ext fun i hi => ?_
    rw [b_and, b_lo i hi]
    by_cases e : i < 30
    · rw [decide_eq_true e, Bool.and_true]
    · rw [h i (by omega) hi]; rfl
  · rintro ⟨j, hj, rfl⟩
    have e : nI j = nI j &&& 1073741823 := by rw [pk_andN (by omega) 30 hm, Nat.mod_eq_of_lt hj]
    rw [s30_b]
    intro i h1 h2
    rw [e, b_and, b_lo i h2, decide_eq_false (by omega), Bool.and_false]
theorem s30_in {x : Int32} : s30 x ↔ ¬ x < 0 ∧ ¬ 1073741823 < x := by
  rw [s30_n]
  constructor
  · rintro ⟨j, hj, rfl⟩
    exact ⟨nI_pos (by omega), nI_nlt (a := 1073741823) (b := j) (by omega) (by omega)⟩
  · rintro ⟨h1, h2⟩
    obtain ⟨j, hj, rfl⟩ := nI_of h1
    refine ⟨j, ?_, rfl⟩
    rcases Nat.lt_or_ge j 1073741824 with q | q
    · exact q
    · exact absurd (nI_lt (a := 1073741823) (b := j) (by omega) (by omega)) h2
theorem s30_and {x y : Int32} (h : s30 x) : s30 (x &&& y) := by
  rw [s30_b] at h ⊢
  intro i h1 h2
  rw [b_and, h i h1 h2]; rfl
theorem s30_or {x y : Int32} (h : s30 x) (h' : s30 y) : s30 (x ||| y) := by
  rw [s30_b] at h h' ⊢
  intro i h1 h2
  rw [b_or, h i h1 h2, h' i h1 h2]; rfl
theorem s30_0 : s30 0 := by rw [s30_b]; intro i _ _; exact b_0 i
theorem s30_pw {f : Nat} (h : f < 30) : s30 (pw f) := by
  rw [s30_b]; intro i h1 h2; rw [b_pw (by omega) h2, decide_eq_false (by omega)]
theorem s30_aft {u m x : Int32} (hx : s30 x) (hm : s30 m) : s30 (aft u m x) := s30_or (s30_and hx) hm
theorem s30_bit {x : Int32} (h : s30 x) {i : Nat} (hi : bt x i = true) : i < 30 := by
  rcases Nat.lt_or_ge i 30 with q | q
  · exact q
  · rcases Nat.lt_or_ge i 32 with q2 | q2
    · rw [s30_b.mp h i q q2] at hi; cases hi
    · rw [b_big q2] at hi; cases hi
