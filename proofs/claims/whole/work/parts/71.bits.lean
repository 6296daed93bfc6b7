/-! ===== Int32 by its bits: bt x i ===== -/
def bt (x : Int32) (i : Nat) : Bool := x.toBitVec.getLsbD i
theorem b_ext {x y : Int32} (h : ∀ i, i < 32 → bt x i = bt y i) : x = y := Int32.toBitVec_inj.mp (BitVec.eq_of_getLsbD_eq (fun i hi => h i hi))
theorem b_or (x y : Int32) (i : Nat) : bt (x ||| y) i = (bt x i || bt y i) := by unfold bt; rw [Int32.toBitVec_or, BitVec.getLsbD_or]
theorem b_and (x y : Int32) (i : Nat) : bt (x &&& y) i = (bt x i && bt y i) := by unfold bt; rw [Int32.toBitVec_and, BitVec.getLsbD_and]
theorem b_xor (x y : Int32) (i : Nat) : bt (x ^^^ y) i = (bt x i ^^ bt y i) := by unfold bt; rw [Int32.toBitVec_xor, BitVec.getLsbD_xor]
theorem b_big {x : Int32} {i : Nat} (h : 32 ≤ i) : bt x i = false := BitVec.getLsbD_of_ge _ _ h
theorem b_255 (i : Nat) : bt 255 i = decide (i < 8) := by
  rcases Nat.lt_or_ge i 32 with h | h
  · exact (by decide +kernel : ∀ i, i < 32 → bt 255 i = decide (i < 8)) i h
  · rw [b_big h, decide_eq_false (by omega)]
theorem b_65535 (i : Nat) : bt 65535 i = decide (i < 16) := by
  rcases Nat.lt_or_ge i 32 with h | h
  · exact (by decide +kernel : ∀ i, i < 32 → bt 65535 i = decide (i < 16)) i h
  · rw [b_big h, decide_eq_false (by omega)]
theorem b_m1 : ∀ i, i < 32 → bt (-1) i = true := by decide +kernel
theorem b_0 (i : Nat) : bt 0 i = false := BitVec.getLsbD_zero
theorem s_l : ∀ n, n < 32 → ((nI n &&& 31).toBitVec.smod 32).toNat = n := by decide +kernel
theorem s_u : ∀ n, n < 32 → (((nI n).toUInt32 &&& Int32.toUInt32 31).toBitVec % 32).toNat = n := by decide +kernel
theorem b_shl (n : Nat) (hn : n < 32) (x : Int32) {i : Nat} (hi : i < 32) : bt (x <<< (nI n &&& 31)) i = (decide (n ≤ i) && bt x (i - n)) := by
  unfold bt
  rw [Int32.toBitVec_shiftLeft]
  show (x.toBitVec <<< ((nI n &&& 31).toBitVec.smod 32).toNat).getLsbD i = _
  rw [s_l n hn, BitVec.getLsbD_shiftLeft]
  rcases Nat.lt_or_ge i n with h | h
  · simp [h, Nat.not_le.mpr h]
  · simp [hi, h, Nat.not_lt.mpr h]
theorem b_ushr (n : Nat) (hn : n < 32) (x : Int32) (i : Nat) : bt ((x.toUInt32 >>> ((nI n).toUInt32 &&& Int32.toUInt32 31)).toInt32) i = bt x (n + i) := by
  show (x.toUInt32 >>> ((nI n).toUInt32 &&& Int32.toUInt32 31)).toBitVec.getLsbD i = x.toUInt32.toBitVec.getLsbD (n + i)
  rw [UInt32.toBitVec_shiftRight]
  show (x.toUInt32.toBitVec >>> (((nI n).toUInt32 &&& Int32.toUInt32 31).toBitVec % 32).toNat).getLsbD i = _
  rw [s_u n hn, BitVec.getLsbD_ushiftRight]
theorem b_sshr (n : Nat) (hn : n < 32) (x : Int32) {i : Nat} (hi : i < 32) : bt (x >>> (nI n &&& 31)) i = if n + i < 32 then bt x (n + i) else bt x 31 := by
  unfold bt
  rw [Int32.toBitVec_shiftRight]
  show (x.toBitVec.sshiftRight ((nI n &&& 31).toBitVec.smod 32).toNat).getLsbD i = _
  rw [s_l n hn, BitVec.getLsbD_sshiftRight, BitVec.msb_eq_getLsbD_last]
  simp [hi]
theorem b_shl8 (x : Int32) {i : Nat} (hi : i < 32) : bt (x <<< ((8 : Int32) &&& 31)) i = (decide (8 ≤ i) && bt x (i - 8)) := b_shl 8 (by omega) x hi
theorem b_shl16 (x : Int32) {i : Nat} (hi : i < 32) : bt (x <<< ((16 : Int32) &&& 31)) i = (decide (16 ≤ i) && bt x (i - 16)) := b_shl 16 (by omega) x hi
theorem b_shl24 (x : Int32) {i : Nat} (hi : i < 32) : bt (x <<< ((24 : Int32) &&& 31)) i = (decide (24 ≤ i) && bt x (i - 24)) := b_shl 24 (by omega) x hi
theorem b_sshr8 (x : Int32) {i : Nat} (hi : i < 32) : bt (x >>> ((8 : Int32) &&& 31)) i = if 8 + i < 32 then bt x (8 + i) else bt x 31 := b_sshr 8 (by omega) x hi
/-! ===== how many bits are set ===== -/
theorem q_andw {w a b m k : Nat} (hb : b < 2 ^ w) (hk : k < 2 ^ w) : (2 ^ w * a + b) &&& (2 ^ w * m + k) = 2 ^ w * (a &&& m) + (b &&& k) := by
  have h : b &&& k < 2 ^ w := Nat.lt_of_le_of_lt Nat.and_le_left hb
  apply Nat.eq_of_testBit_eq
  intro i
  rw [Nat.testBit_and, Nat.testBit_two_pow_mul_add _ hb, Nat.testBit_two_pow_mul_add _ hk, Nat.testBit_two_pow_mul_add _ h]
  by_cases hi : i < w
  · rw [if_pos hi, if_pos hi, if_pos hi, Nat.testBit_and]
  · rw [if_neg hi, if_neg hi, if_neg hi, Nat.testBit_and]
/-- the three steps within bytes -/
def q_b1 (m x : Nat) : Nat := x - (x / 2 &&& m)
def q_b2 (m x : Nat) : Nat := (x &&& m) + (x / 4 &&& m)
def q_b3 (m x : Nat) : Nat := (x + x / 16) &&& m
def q_t8 (c : Nat) : Nat := q_b3 15 (q_b2 51 (q_b1 85 c))
theorem q_b1_s {m a b : Nat} (hb : b < 256) : q_b1 (256 * m + 85) (256 * a + b) = 256 * q_b1 m a + q_b1 85 b ∧ q_b1 85 b ≤ b := by
  have h1 : (256 * a + b) / 2 &&& (256 * m + 85) = 256 * (a / 2 &&& m) + (b / 2 &&& 85) := by
    have e : (256 * a + b) / 2 = 2 ^ 8 * (a / 2) + (128 * (a % 2) + b / 2) := by omega
    have e2 : (128 * (a % 2) + b / 2) &&& 85 = b / 2 &&& 85 := by
      have h : ∀ (u : Fin 2) (v : Fin 128), (128 * u.val + v.val) &&& 85 = v.val &&& 85 := by decide +kernel
      exact h ⟨a % 2, by omega⟩ ⟨b / 2, by omega⟩
    rw [e, show 256 * m + 85 = 2 ^ 8 * m + 85 from rfl, q_andw (by omega) (by decide), e2]
  have h2 : a / 2 &&& m ≤ a / 2 := Nat.and_le_left
  have h3 : b / 2 &&& 85 ≤ b / 2 := Nat.and_le_left
  unfold q_b1
  rw [h1]
  constructor
  · omega
  · omega
theorem q_b1_l : ∀ b : Fin 256, (q_b1 85 b.val) < 256 ∧ (q_b2 51 (q_b1 85 b.val)) < 256 ∧ q_t8 b.val = fb_ct (fun i => b.val.testBit i) 8 ∧ q_t8 b.val ≤ 8 ∧ q_b2 51 (q_b1 85 b.val) % 16 ≤ 4 ∧ q_b2 51 (q_b1 85 b.val) / 16 ≤ 4 := by decide +kernel
theorem q_b2_s {m a b : Nat} (hb : b < 256) : q_b2 (256 * m + 51) (256 * a + b) = 256 * q_b2 m a + q_b2 51 b := by
  have h1 : (256 * a + b) / 4 &&& (256 * m + 51) = 256 * (a / 4 &&& m) + (b / 4 &&& 51) := by
    have e : (256 * a + b) / 4 = 2 ^ 8 * (a / 4) + (64 * (a % 4) + b / 4) := by omega
    have e2 : (64 * (a % 4) + b / 4) &&& 51 = b / 4 &&& 51 := by
      have h : ∀ (u : Fin 4) (v : Fin 64), (64 * u.val + v.val) &&& 51 = v.val &&& 51 := by decide +kernel
      exact h ⟨a % 4, by omega⟩ ⟨b / 4, by omega⟩
    rw [e, show 256 * m + 51 = 2 ^ 8 * m + 51 from rfl, q_andw (by omega) (by decide), e2]
  unfold q_b2
  rw [h1, show 256 * m + 51 = 2 ^ 8 * m + 51 from rfl, show 256 * a + b = 2 ^ 8 * a + b from rfl, q_andw (by omega) (by decide)]
  omega
theorem q_b3_s {m a b : Nat} (h1 : b % 16 ≤ 4) (h2 : b / 16 ≤ 4) (h3 : a % 16 ≤ 4) : q_b3 (256 * m + 15) (256 * a + b) = 256 * q_b3 m a + q_b3 15 b := by
  unfold q_b3
  have e2 : 256 * a + b + (256 * a + b) / 16 = 2 ^ 8 * (a + a / 16) + (16 * (a % 16) + b + b / 16) := by omega
  rw [e2, show 256 * m + 15 = 2 ^ 8 * m + 15 from rfl, q_andw (by omega) (by decide), show (15 : Nat) = 2 ^ 4 - 1 from rfl, Nat.and_two_pow_sub_one_eq_mod, Nat.and_two_pow_sub_one_eq_mod]
  omega
def q_4 (a b c d : Nat) : Nat := 256 * (256 * (256 * a + b) + c) + d
theorem q_4_is (x : Nat) (h : x < 2 ^ 32) : ∃ a b c d, a < 256 ∧ b < 256 ∧ c < 256 ∧ d < 256 ∧ x = q_4 a b c d := ⟨x / 16777216, x / 65536 % 256, x / 256 % 256, x % 256, by omega, by omega, by omega, by omega, by unfold q_4; omega⟩
theorem q_b1_4 {a b c d : Nat} (hb : b < 256) (hc : c < 256) (hd : d < 256) : q_b1 1431655765 (q_4 a b c d) = q_4 (q_b1 85 a) (q_b1 85 b) (q_b1 85 c) (q_b1 85 d) := by
  unfold q_4
  rw [show (1431655765 : Nat) = 256 * (256 * (256 * 85 + 85) + 85) + 85 from rfl, (q_b1_s hd).1, (q_b1_s hc).1, (q_b1_s hb).1]
theorem q_b2_4 {a b c d : Nat} (hb : b < 256) (hc : c < 256) (hd : d < 256) : q_b2 858993459 (q_4 a b c d) = q_4 (q_b2 51 a) (q_b2 51 b) (q_b2 51 c) (q_b2 51 d) := by
  unfold q_4
  rw [show (858993459 : Nat) = 256 * (256 * (256 * 51 + 51) + 51) + 51 from rfl, q_b2_s hd, q_b2_s hc, q_b2_s hb]
theorem q_b3_4 {a b c d : Nat} (ha : a % 16 ≤ 4) (hb1 : b % 16 ≤ 4) (hb2 : b / 16 ≤ 4) (hc1 : c % 16 ≤ 4) (hc2 : c / 16 ≤ 4) (hd1 : d % 16 ≤ 4) (hd2 : d / 16 ≤ 4) : q_b3 252645135 (q_4 a b c d) = q_4 (q_b3 15 a) (q_b3 15 b) (q_b3 15 c) (q_b3 15 d) := by
  unfold q_4
  rw [show (252645135 : Nat) = 256 * (256 * (256 * 15 + 15) + 15) + 15 from rfl, q_b3_s hd1 hd2 (by omega), q_b3_s hc1 hc2 (by omega), q_b3_s hb1 hb2 ha]
def q_n1 (x : Nat) : Nat := fb_ct (fun i => x.testBit i) 32
theorem q_n1_4 {a b c d : Nat} (ha : a < 256) (hb : b < 256) (hc : c < 256) (hd : d < 256) : q_n1 (q_4 a b c d) = fb_ct (fun i => a.testBit i) 8 + fb_ct (fun i => b.testBit i) 8 + fb_ct (fun i => c.testBit i) 8 + fb_ct (fun i => d.testBit i) 8 := by
  have key : ∀ (u v n : Nat), v < 256 → fb_ct (fun i => (256 * u + v).testBit i) (8 + n) = fb_ct (fun i => v.testBit i) 8 + fb_ct (fun i => u.testBit i) n := by
    intro u v n hv
    rw [fb_ct_split]
    congr 1
    · refine fb_ct_cong (fun k hk => ?_)
      show (2 ^ 8 * u + v).testBit k = _
      rw [Nat.testBit_two_pow_mul_add _ (by omega), if_pos hk]
    · refine fb_ct_cong (fun k hk => ?_)
      show (2 ^ 8 * u + v).testBit (8 + k) = _
      rw [Nat.testBit_two_pow_mul_add _ (by omega), if_neg (by omega), show 8 + k - 8 = k by omega]
  unfold q_n1 q_4
  rw [show 32 = 8 + (8 + (8 + 8)) from rfl, key _ _ _ hd, key _ _ _ hc, key _ _ _ hb]
  omega
theorem q_e9 {a b c d : Nat} (ha : a ≤ 8) (hb : b ≤ 8) (hc : c ≤ 8) (hd : d ≤ 8) : (q_4 a b c d + q_4 a b c d / 2 ^ 8 + (q_4 a b c d + q_4 a b c d / 2 ^ 8) / 2 ^ 16) % 2 ^ 6 = a + b + c + d := by
  have h1 : q_4 a b c d / 2 ^ 8 = 256 * (256 * a + b) + c := by
    unfold q_4
    omega
  have h2 : q_4 a b c d + q_4 a b c d / 2 ^ 8 = 65536 * (256 * a + (a + b)) + (256 * (b + c) + (c + d)) := by
    rw [h1]
    unfold q_4
    omega
  have h3 : (65536 * (256 * a + (a + b)) + (256 * (b + c) + (c + d))) / 2 ^ 16 = 256 * a + (a + b) := by omega
  rw [h2, h3]
  omega
theorem q_cnt {x : Nat} (hx : x < 2 ^ 32) (g : zSG) : zF_J6_bitCount_0f7a4 [.inl (nI x)] g = some (.inl (some (.inl (nI (q_n1 x)))), g) := by
  obtain ⟨a, b, c, d, ha, hb, hc, hd, e⟩ := q_4_is x (by omega)
  obtain ⟨a1, a2, a3, a4, a5, a6⟩ := q_b1_l ⟨a, ha⟩
  obtain ⟨b1, b2, b3, b4, b5, b6⟩ := q_b1_l ⟨b, hb⟩
  obtain ⟨c1, c2, c3, c4, c5, c6⟩ := q_b1_l ⟨c, hc⟩
  obtain ⟨d1, d2, d3, d4, d5, d6⟩ := q_b1_l ⟨d, hd⟩
  dsimp only at a1 a2 a3 a4 a5 a6 b1 b2 b3 b4 b5 b6 c1 c2 c3 c4 c5 c6 d1 d2 d3 d4 d5 d6
  have eB1 : q_b1 1431655765 x = q_4 (q_b1 85 a) (q_b1 85 b) (q_b1 85 c) (q_b1 85 d) := by rw [e, q_b1_4 hb hc hd]
  have eB2 : q_b2 858993459 (q_b1 1431655765 x) = q_4 (q_b2 51 (q_b1 85 a)) (q_b2 51 (q_b1 85 b)) (q_b2 51 (q_b1 85 c)) (q_b2 51 (q_b1 85 d)) := by rw [eB1, q_b2_4 b1 c1 d1]
  have eB3 : q_b3 252645135 (q_b2 858993459 (q_b1 1431655765 x)) = q_4 (q_t8 a) (q_t8 b) (q_t8 c) (q_t8 d) := by
    rw [eB2, q_b3_4 a5 b5 b6 c5 c6 d5 d6]
    rfl
  have l1 : q_b1 1431655765 x ≤ x := Nat.sub_le _ _
  have l2 : q_b2 858993459 (q_b1 1431655765 x) < 2 ^ 32 := by
    rw [eB2]
    unfold q_4
    omega
  have en : q_n1 x = q_t8 a + q_t8 b + q_t8 c + q_t8 d := by rw [e, q_n1_4 ha hb hc hd, a3, b3, c3, d3]
  have f1 : nI x - nI (x / 2 ^ 1 &&& 1431655765) = nI (q_b1 1431655765 x) := pk_sub (Nat.le_trans Nat.and_le_left (Nat.div_le_self _ _))
  have f2 : nI (q_b1 1431655765 x &&& 858993459) + nI (q_b1 1431655765 x / 2 ^ 2 &&& 858993459) = nI (q_b2 858993459 (q_b1 1431655765 x)) := nI_add _ _
  have f3 : (nI (q_b2 858993459 (q_b1 1431655765 x)) + nI (q_b2 858993459 (q_b1 1431655765 x) / 2 ^ 4)) &&& nI 252645135 = nI (q_b3 252645135 (q_b2 858993459 (q_b1 1431655765 x))) := by rw [nI_add, fa_and]; rfl
  rw [(ze_J6_bitCount_0f7a4 (nI x) g).trans (zu_J6_bitCount_0f7a4_0 99999 (nI x) g)]
  rw [show (1431655765 : Int32) = nI 1431655765 from rfl, show (858993459 : Int32) = nI 858993459 from rfl, show (252645135 : Int32) = nI 252645135 from rfl, pk_ushrN (show x < 2 ^ 32 by omega) 1 1 (by decide), fa_and, f1, pk_ushrN (show q_b1 1431655765 x < 2 ^ 32 by omega) 2 2 (by decide), fa_and, fa_and, f2, pk_ushrN l2 4 4 (by decide), f3, eB3]
  have l3 : q_4 (q_t8 a) (q_t8 b) (q_t8 c) (q_t8 d) < 2 ^ 32 := by
    unfold q_4
    omega
  rw [pk_ushrN l3 8 8 (by decide), nI_add]
  have l4 : q_4 (q_t8 a) (q_t8 b) (q_t8 c) (q_t8 d) + q_4 (q_t8 a) (q_t8 b) (q_t8 c) (q_t8 d) / 2 ^ 8 < 2 ^ 32 := by
    unfold q_4
    omega
  have e9 := q_e9 a4 b4 c4 d4
  rw [pk_ushrN l4 16 16 (by decide), nI_add, show (63 : Int32) = nI (2 ^ 6 - 1) from rfl, fa_mask, en, e9]
theorem q_n1_split {x w : Nat} (hw : w ≤ 32) (h : x < 2 ^ w) : q_n1 x = fb_ct (fun i => x.testBit i) w := by
  unfold q_n1
  rw [show 32 = w + (32 - w) by omega, fb_ct_split, show fb_ct (fun k => x.testBit (w + k)) (32 - w) = 0 from fb_ct_zero.mpr (fun k hk => Nat.testBit_lt_two_pow (Nat.lt_of_lt_of_le h (Nat.pow_le_pow_right (by decide) (by omega))))]
  rfl
