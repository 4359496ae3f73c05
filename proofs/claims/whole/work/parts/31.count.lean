/-! COUNTING BITS: Integer.bitCount -/
def cbN (N : Nat) : Nat → Nat
  | 0 => 0
  | n + 1 => cbN N n + N / 2 ^ n % 2
theorem cb_N (x : Int32) : ∀ n, cb x n = cbN x.toBitVec.toNat n
  | 0 => rfl
  | n + 1 => by
    show cb x n + (if bt x n = true then 1 else 0) = cbN x.toBitVec.toNat n + x.toBitVec.toNat / 2 ^ n % 2
    rw [cb_N x n]
    congr 1
    unfold bt
    rw [← BitVec.testBit_toNat, Nat.testBit_eq_decide_div_mod_eq]
    rcases Nat.mod_two_eq_zero_or_one (x.toBitVec.toNat / 2 ^ n) with h | h
    · rw [h]; rfl
    · rw [h]; rfl
theorem cbN_add (N : Nat) : ∀ n m, cbN N (n + m) = cbN N n + cbN (N / 2 ^ n) m
  | n, 0 => rfl
  | n, m + 1 => by
    show cbN N (n + m) + N / 2 ^ (n + m) % 2 = cbN N n + (cbN (N / 2 ^ n) m + N / 2 ^ n / 2 ^ m % 2)
    rw [cbN_add N n m, Nat.div_div_eq_div_mul, ← Nat.pow_add]
    omega
theorem cbN_mod (N k : Nat) : ∀ n, n ≤ k → cbN (N % 2 ^ k) n = cbN N n
  | 0, _ => rfl
  | n + 1, h => by
    show cbN (N % 2 ^ k) n + N % 2 ^ k / 2 ^ n % 2 = cbN N n + N / 2 ^ n % 2
    rw [cbN_mod N k n (by omega)]
    congr 1
    obtain ⟨d, rfl⟩ : ∃ d, k = n + 1 + d := ⟨k - (n + 1), by omega⟩
    have h1 : N % 2 ^ (n + 1 + d) / 2 ^ n % 2 = (N % 2 ^ (n + 1 + d) / 2 ^ n) % 2 := rfl
    have h2 := Nat.testBit_mod_two_pow N (n + 1 + d) n
    rw [Nat.testBit_eq_decide_div_mod_eq, Nat.testBit_eq_decide_div_mod_eq, decide_eq_true (by omega : n < n + 1 + d), Bool.true_and] at h2
    rcases Nat.mod_two_eq_zero_or_one (N / 2 ^ n) with e | e
    · rw [e] at h2 ⊢
      rcases Nat.mod_two_eq_zero_or_one (N % 2 ^ (n + 1 + d) / 2 ^ n) with e2 | e2
      · exact e2
      · rw [e2] at h2; simp at h2
    · rw [e] at h2 ⊢
      rcases Nat.mod_two_eq_zero_or_one (N % 2 ^ (n + 1 + d) / 2 ^ n) with e2 | e2
      · rw [e2] at h2; simp at h2
      · exact e2
/-- the counting of a byte -/
def h1 (a : Nat) : Nat := a - ((a / 2) &&& 0x55)
def h2 (a : Nat) : Nat := (h1 a &&& 0x33) + ((h1 a / 4) &&& 0x33)
def h3 (a : Nat) : Nat := (h2 a + h2 a / 16) &&& 0x0f
theorem h_all : ∀ a, a < 256 → (a / 2 &&& 0x55 ≤ a ∧ h2 a ≤ 68 ∧ h2 a % 16 ≤ 4 ∧ h2 a / 16 ≤ 4 ∧ h3 a ≤ 8 ∧ h3 a = cbN a 8) := by decide +kernel
theorem and_b {a X m M : Nat} (ha : a < 256) (hm : m < 256) : (a + 256 * X) &&& (m + 256 * M) = (a &&& m) + 256 * (X &&& M) := by
  have e1 := Nat.and_mod_two_pow (a := a + 256 * X) (b := m + 256 * M) (n := 8)
  have e2 := Nat.and_div_two_pow (a := a + 256 * X) (b := m + 256 * M) (n := 8)
  rw [show (2 : Nat) ^ 8 = 256 from rfl] at e1 e2
  rw [show (a + 256 * X) % 256 = a by omega, show (m + 256 * M) % 256 = m by omega] at e1
  rw [show (a + 256 * X) / 256 = X by omega, show (m + 256 * M) / 256 = M by omega] at e2
  omega
/-- a mask that has no high bits sees none -/
theorem and_m {A M : Nat} (k : Nat) (hM : M < 2 ^ k) : A &&& M = (A % 2 ^ k) &&& M := by
  have e1 := Nat.and_mod_two_pow (a := A) (b := M) (n := k)
  rw [Nat.mod_eq_of_lt hM] at e1
  have : A &&& M < 2 ^ k := Nat.lt_of_le_of_lt Nat.and_le_right hM
  rw [← e1, Nat.mod_eq_of_lt this]
theorem sh1 {a X M : Nat} (ha : a < 256) : (a + 256 * X) / 2 &&& (0x55 + 256 * M) = (a / 2 &&& 0x55) + 256 * (X / 2 &&& M) := by
  rw [show (a + 256 * X) / 2 = (a / 2 + 128 * (X % 2)) + 256 * (X / 2) by omega, and_b (by omega) (by omega), and_m (A := a / 2 + 128 * (X % 2)) 7 (by decide), show (a / 2 + 128 * (X % 2)) % 2 ^ 7 = a / 2 by omega]
theorem sh2 {a X M : Nat} (ha : a < 256) : (a + 256 * X) / 4 &&& (0x33 + 256 * M) = (a / 4 &&& 0x33) + 256 * (X / 4 &&& M) := by
  rw [show (a + 256 * X) / 4 = (a / 4 + 64 * (X % 4)) + 256 * (X / 4) by omega, and_b (by omega) (by omega), and_m (A := a / 4 + 64 * (X % 4)) 6 (by decide), show (a / 4 + 64 * (X % 4)) % 2 ^ 6 = a / 4 by omega]
theorem sh3 {a X M : Nat} (ha : a ≤ 68) (hX : X % 16 ≤ 4) : ((a + 256 * X) + (a + 256 * X) / 16) &&& (0x0f + 256 * M) = ((a + a / 16) &&& 0x0f) + 256 * ((X + X / 16) &&& M) := by
  rw [show (a + 256 * X) + (a + 256 * X) / 16 = (a + a / 16 + 16 * (X % 16)) + 256 * (X + X / 16) by omega, and_b (by omega) (by omega), and_m (A := a + a / 16 + 16 * (X % 16)) 4 (by decide), and_m (A := a + a / 16) 4 (by decide), show (a + a / 16 + 16 * (X % 16)) % 2 ^ 4 = (a + a / 16) % 2 ^ 4 by omega]
theorem N_and (x y : Int32) : (x &&& y).toBitVec.toNat = x.toBitVec.toNat &&& y.toBitVec.toNat := by rw [Int32.toBitVec_and, BitVec.toNat_and]
theorem N_add (x y : Int32) : (x + y).toBitVec.toNat = (x.toBitVec.toNat + y.toBitVec.toNat) % 2 ^ 32 := by rw [Int32.toBitVec_add, BitVec.toNat_add]
theorem N_sub (x y : Int32) (h : y.toBitVec.toNat ≤ x.toBitVec.toNat) : (x - y).toBitVec.toNat = x.toBitVec.toNat - y.toBitVec.toNat := by
  rw [Int32.toBitVec_sub, BitVec.toNat_sub]
  have := x.toBitVec.isLt
  omega
theorem N_nI {x : Int32} {m : Nat} (h : x.toBitVec.toNat = m) (hm : m < 2 ^ 32) : x = nI m :=
  Int32.toBitVec_inj.mp (BitVec.eq_of_toNat_eq (h.trans (pk_tn hm).symm))
theorem fin_sum {p q r s : Nat} (hp : p ≤ 8) (hq : q ≤ 8) (hr : r ≤ 8) (hs : s ≤ 8) : ((((p + 256 * (q + 256 * (r + 256 * s)) + (p + 256 * (q + 256 * (r + 256 * s))) / 2 ^ 8) % 2 ^ 32 + (p + 256 * (q + 256 * (r + 256 * s)) + (p + 256 * (q + 256 * (r + 256 * s))) / 2 ^ 8) % 2 ^ 32 / 2 ^ 16) % 2 ^ 32) % 2 ^ 6) = p + q + r + s := by
  have e1 : (p + 256 * (q + 256 * (r + 256 * s)) + (p + 256 * (q + 256 * (r + 256 * s))) / 2 ^ 8) % 2 ^ 32 = (p + q) + 256 * (q + r) + 65536 * (r + s) + 16777216 * s := by omega
  rw [e1]
  have e2 : ((p + q) + 256 * (q + r) + 65536 * (r + s) + 16777216 * s) / 2 ^ 16 = (r + s) + 256 * s := by omega
  rw [e2]
  omega
theorem bitCount_ok (x : Int32) : f_J6_bitCount_0f7a4 x = nI (cb x 32) := by
  obtain ⟨a, b, c, d, ha, hb, hc, hd, hx⟩ : ∃ a b c d, a < 256 ∧ b < 256 ∧ c < 256 ∧ d < 256 ∧ x.toBitVec.toNat = a + 256 * (b + 256 * (c + 256 * d)) := ⟨x.toBitVec.toNat % 256, x.toBitVec.toNat / 256 % 256, x.toBitVec.toNat / 65536 % 256, x.toBitVec.toNat / 16777216, by omega, by omega, by omega, by have := x.toBitVec.isLt; omega, by omega⟩
  obtain ⟨a1, a2, a3, a4, a5, a6⟩ := h_all a ha
  obtain ⟨b1, b2, b3, b4, b5, b6⟩ := h_all b hb
  obtain ⟨c1, c2, c3, c4, c5, c6⟩ := h_all c hc
  obtain ⟨d1, d2, d3, d4, d5, d6⟩ := h_all d hd
  have hcb : cb x 32 = cbN a 8 + cbN b 8 + cbN c 8 + cbN d 8 := by
    rw [cb_N, hx, cbN_add _ 8 24, ← cbN_mod _ 8 8 (Nat.le_refl 8), show (a + 256 * (b + 256 * (c + 256 * d))) % 2 ^ 8 = a by omega, show (a + 256 * (b + 256 * (c + 256 * d))) / 2 ^ 8 = b + 256 * (c + 256 * d) by omega]
    rw [cbN_add _ 8 16, ← cbN_mod (b + 256 * (c + 256 * d)) 8 8 (Nat.le_refl 8), show (b + 256 * (c + 256 * d)) % 2 ^ 8 = b by omega, show (b + 256 * (c + 256 * d)) / 2 ^ 8 = c + 256 * d by omega]
    rw [cbN_add _ 8 8, ← cbN_mod (c + 256 * d) 8 8 (Nat.le_refl 8), show (c + 256 * d) % 2 ^ 8 = c by omega, show (c + 256 * d) / 2 ^ 8 = d by omega]
    omega
  have ush : ∀ (y s : Int32) (k : Nat), ((s.toUInt32 &&& Int32.toUInt32 31).toBitVec % 32).toNat = k → (y.toUInt32 >>> (s.toUInt32 &&& Int32.toUInt32 31)).toInt32.toBitVec.toNat = y.toBitVec.toNat / 2 ^ k := fun y s k h => pk_ushr y s k h
  unfold f_J6_bitCount_0f7a4
  simp only [lt_e]
  have l1 : ∀ z, z < 256 → h1 z < 256 := fun z hz => by unfold h1; omega
  generalize e1 : x - (((x.toUInt32 >>> ((1 : Int32).toUInt32 &&& Int32.toUInt32 31)).toInt32) &&& 1431655765) = v1
  have k1 : v1.toBitVec.toNat = h1 a + 256 * (h1 b + 256 * (h1 c + 256 * h1 d)) := by
    have q : (((x.toUInt32 >>> ((1 : Int32).toUInt32 &&& Int32.toUInt32 31)).toInt32) &&& 1431655765).toBitVec.toNat = (a / 2 &&& 0x55) + 256 * ((b / 2 &&& 0x55) + 256 * ((c / 2 &&& 0x55) + 256 * (d / 2 &&& 0x55))) := by
      rw [N_and, ush x 1 1 (by decide), hx, show (1431655765 : Int32).toBitVec.toNat = 0x55 + 256 * (0x55 + 256 * (0x55 + 256 * 0x55)) by decide, show (2 : Nat) ^ 1 = 2 from rfl, sh1 ha, sh1 hb, sh1 hc]
    rw [← e1, N_sub _ _ (by rw [q, hx]; omega), q, hx]
    unfold h1
    omega
  generalize e2 : (v1 &&& 858993459) + (((v1.toUInt32 >>> ((2 : Int32).toUInt32 &&& Int32.toUInt32 31)).toInt32) &&& 858993459) = v2
  have k2 : v2.toBitVec.toNat = h2 a + 256 * (h2 b + 256 * (h2 c + 256 * h2 d)) := by
    have q : (((v1.toUInt32 >>> ((2 : Int32).toUInt32 &&& Int32.toUInt32 31)).toInt32) &&& 858993459).toBitVec.toNat = (h1 a / 4 &&& 0x33) + 256 * ((h1 b / 4 &&& 0x33) + 256 * ((h1 c / 4 &&& 0x33) + 256 * (h1 d / 4 &&& 0x33))) := by
      rw [N_and, ush v1 2 2 (by decide), k1, show (858993459 : Int32).toBitVec.toNat = 0x33 + 256 * (0x33 + 256 * (0x33 + 256 * 0x33)) by decide, show (2 : Nat) ^ 2 = 4 from rfl, sh2 (l1 a ha), sh2 (l1 b hb), sh2 (l1 c hc)]
    have q' : (v1 &&& 858993459).toBitVec.toNat = (h1 a &&& 0x33) + 256 * ((h1 b &&& 0x33) + 256 * ((h1 c &&& 0x33) + 256 * (h1 d &&& 0x33))) := by
      rw [N_and, k1, show (858993459 : Int32).toBitVec.toNat = 0x33 + 256 * (0x33 + 256 * (0x33 + 256 * 0x33)) by decide, and_b (l1 a ha) (by omega), and_b (l1 b hb) (by omega), and_b (l1 c hc) (by omega)]
    rw [← e2, N_add, q, q']
    unfold h2 at a2 b2 c2 d2 ⊢
    omega
  generalize e3 : (v2 + ((v2.toUInt32 >>> ((4 : Int32).toUInt32 &&& Int32.toUInt32 31)).toInt32)) &&& 252645135 = v3
  have k3 : v3.toBitVec.toNat = h3 a + 256 * (h3 b + 256 * (h3 c + 256 * h3 d)) := by
    rw [← e3, N_and, N_add, ush v2 4 4 (by decide), k2, show (252645135 : Int32).toBitVec.toNat = 0x0f + 256 * (0x0f + 256 * (0x0f + 256 * 0x0f)) by decide, show (2 : Nat) ^ 4 = 16 from rfl]
    rw [Nat.mod_eq_of_lt (by omega), sh3 a2 (by omega), sh3 b2 (by omega), sh3 c2 (by omega)]
    rfl
  refine N_nI ?_ (by omega)
  rw [N_and, N_add, ush _ 16 16 (by decide), N_add, ush v3 8 8 (by decide), k3, show (63 : Int32).toBitVec.toNat = 2 ^ 6 - 1 by decide, hcb, ← a6, ← b6, ← c6, ← d6, Nat.and_two_pow_sub_one_eq_mod]
  exact fin_sum a5 b5 c5 d5
/-- the reference's counting -/
theorem countOf_M {n : Nat} (hn : 100 < n) (x : Int32) : f_X12_countOf n x = some (nI (cb x 30)) := by
  unfold f_X12_countOf
  have h1 := (loop_fo (L := fun f i y => LX12_countOf_4 x (fun w3 => some w3) f y (nI i)) (K := fun w6 => some w6) (g := fun i y => y + ((x >>> (nI i &&& 31)) &&& 1)) (c := 30) (n := n) (x := 0) (fun _ _ => True) (by omega) trivial (fun f y _ => if_pos (nI_le (Nat.le_refl 30) (by omega))) (by
      intro f i y hi _
      refine ⟨?_, trivial⟩
      show (if (30 : Int32) ≤ nI i then _ else _) = _
      rw [if_neg (show ¬ (30 : Int32) ≤ nI i from nI_ge (b := 30) hi (by omega)), lt_e, lt_e, nI_p1])).1
  refine h1.trans (congrArg some ?_)
  refine fo_inv (fun i y => y = nI (cb x i)) rfl ?_
  rintro i y hi rfl
  rw [shr_bit0 (by omega)]
  show _ = nI (cb x i + _)
  by_cases q : bt x i = true
  · rw [if_pos q, if_pos q, nI_1]
  · rw [if_neg q, if_neg q, Int32.add_zero, Nat.add_zero]
theorem cb_30 {x : Int32} (h : s30 x) : cb x 32 = cb x 30 := by
  show cb x 30 + (if bt x 30 = true then 1 else 0) + (if bt x 31 = true then 1 else 0) = _
  rw [s30_b.mp h 30 (by omega) (by omega), s30_b.mp h 31 (by omega) (by omega)]
  rfl
