/-! BITS: numbers below 2^31 under shifts, and, or; how many bits -/
def bt (x : Int32) (i : Nat) : Bool := x.toBitVec.getLsbD i
theorem b_ext {x y : Int32} (h : ∀ i, i < 32 → bt x i = bt y i) : x = y := Int32.toBitVec_inj.mp (BitVec.eq_of_getLsbD_eq (fun i hi => h i hi))
theorem s_l : ∀ n, n < 32 → ((nI n &&& 31).toBitVec.smod 32).toNat = n := by decide +kernel
theorem b_sshr (n : Nat) (hn : n < 32) (x : Int32) {i : Nat} (hi : i < 32) : bt (x >>> (nI n &&& 31)) i = if n + i < 32 then bt x (n + i) else bt x 31 := by
  unfold bt
  rw [Int32.toBitVec_shiftRight]
  show (x.toBitVec.sshiftRight ((nI n &&& 31).toBitVec.smod 32).toNat).getLsbD i = _
  rw [s_l n hn, BitVec.getLsbD_sshiftRight, BitVec.msb_eq_getLsbD_last]
  simp [hi]
theorem s_u : ∀ n, n < 32 → (((nI n).toUInt32 &&& Int32.toUInt32 31).toBitVec % 32).toNat = n := by decide +kernel
theorem b_ushr (n : Nat) (hn : n < 32) (x : Int32) (i : Nat) : bt ((x.toUInt32 >>> ((nI n).toUInt32 &&& Int32.toUInt32 31)).toInt32) i = bt x (n + i) := by
  show (x.toUInt32 >>> ((nI n).toUInt32 &&& Int32.toUInt32 31)).toBitVec.getLsbD i = x.toUInt32.toBitVec.getLsbD (n + i)
  rw [UInt32.toBitVec_shiftRight]
  show (x.toUInt32.toBitVec >>> (((nI n).toUInt32 &&& Int32.toUInt32 31).toBitVec % 32).toNat).getLsbD i = _
  rw [s_u n hn, BitVec.getLsbD_ushiftRight]
theorem nx_and (a b : Nat) : nI a &&& nI b = nI (a &&& b) := by
  apply Int32.toBitVec_inj.1
  show BitVec.ofNat 32 a &&& BitVec.ofNat 32 b = BitVec.ofNat 32 (a &&& b)
  apply BitVec.eq_of_getLsbD_eq
  intro i hi
  simp [hi]
theorem fa_or (a b : Nat) : nI a ||| nI b = nI (a ||| b) := by
  apply Int32.toBitVec_inj.1
  show BitVec.ofNat 32 a ||| BitVec.ofNat 32 b = BitVec.ofNat 32 (a ||| b)
  apply BitVec.eq_of_getLsbD_eq
  intro i hi
  simp [hi]
theorem nx_xor (a b : Nat) : nI a ^^^ nI b = nI (a ^^^ b) := by
  apply Int32.toBitVec_inj.1
  show BitVec.ofNat 32 a ^^^ BitVec.ofNat 32 b = BitVec.ofNat 32 (a ^^^ b)
  apply BitVec.eq_of_getLsbD_eq
  intro i hi
  simp [hi]
theorem zb_o (n : Nat) : Int32.ofInt (n : Int) = nI n := by
  apply Int32.toBitVec_inj.1
  show BitVec.ofInt 32 (n : Int) = BitVec.ofNat 32 n
  exact BitVec.ofInt_natCast 32 n
theorem zb_i {n : Nat} (h : n < 2147483648) : (nI n).toInt = (n : Int) := by
  rw [← zb_o]
  exact z32_toInt (by unfold zI; omega)
theorem zb_bt {n i : Nat} (hi : i < 32) : bt (nI n) i = n.testBit i := by
  show (BitVec.ofNat 32 n).getLsbD i = _
  rw [BitVec.getLsbD_ofNat]
  simp [hi]
theorem zand_n {a b : Nat} (ha : a < 2147483648) : zand a b = ((a &&& b : Nat) : Int) := by
  unfold zand
  rw [zb_o, zb_o, nx_and, zb_i (Nat.lt_of_le_of_lt Nat.and_le_left ha)]
theorem zor_n {a b : Nat} (ha : a < 2147483648) (hb : b < 2147483648) : zor a b = ((a ||| b : Nat) : Int) := by
  unfold zor
  have : a ||| b < 2 ^ 31 := Nat.or_lt_two_pow ha hb
  rw [zb_o, zb_o, fa_or, zb_i (by omega)]
theorem zxor_n {a b : Nat} (ha : a < 2147483648) (hb : b < 2147483648) : zxor a b = ((a ^^^ b : Nat) : Int) := by
  unfold zxor
  have : a ^^^ b < 2 ^ 31 := Nat.xor_lt_two_pow ha hb
  rw [zb_o, zb_o, nx_xor, zb_i (by omega)]
theorem zshr_n {a k : Nat} (ha : a < 2147483648) (hk : k < 32) : zshr a k = ((a >>> k : Nat) : Int) := by
  unfold zshr
  have hle : a >>> k ≤ a := by rw [Nat.shiftRight_eq_div_pow]; exact Nat.div_le_self _ _
  rw [zb_o, zb_o, ← zb_i (n := a >>> k) (by omega)]
  congr 1
  refine b_ext (fun i hi => ?_)
  rw [b_sshr k hk _ hi, zb_bt hi, Nat.testBit_shiftRight]
  split
  · rename_i h
    rw [zb_bt h]
  · rename_i h
    rw [zb_bt (by omega), Nat.testBit_lt_two_pow (Nat.lt_of_lt_of_le ha (by decide)), Nat.testBit_lt_two_pow (Nat.lt_of_lt_of_le ha (Nat.le_trans (by decide) (Nat.pow_le_pow_right (n := 2) (by omega) (show 31 ≤ k + i by omega))))]
theorem zushr_n {a k : Nat} (ha : a < 2147483648) (hk : k < 32) : zushr a k = ((a >>> k : Nat) : Int) := by
  unfold zushr
  have hle : a >>> k ≤ a := by rw [Nat.shiftRight_eq_div_pow]; exact Nat.div_le_self _ _
  rw [zb_o, zb_o, ← zb_i (n := a >>> k) (by omega)]
  congr 1
  refine b_ext (fun i hi => ?_)
  rw [b_ushr k hk, zb_bt hi, Nat.testBit_shiftRight]
  by_cases h : k + i < 32
  · rw [zb_bt h]
  · have : bt (nI a) (k + i) = false := BitVec.getLsbD_of_ge _ _ (by omega)
    rw [this, Nat.testBit_lt_two_pow (Nat.lt_of_lt_of_le ha (Nat.le_trans (by decide) (Nat.pow_le_pow_right (n := 2) (by omega) (show 31 ≤ k + i by omega))))]
theorem zshl1F : ∀ k : Fin 31, zshl 1 ((k.val : Nat) : Int) = ((2 ^ k.val : Nat) : Int) := by decide +kernel
theorem zshl1 {k : Nat} (hk : k < 31) : zshl 1 k = ((2 ^ k : Nat) : Int) := zshl1F ⟨k, hk⟩
theorem sBt_n {a k : Nat} (ha : a < 2147483648) (hk : k < 32) : sBt a k = a.testBit k := by
  have hle : a >>> k ≤ a := by rw [Nat.shiftRight_eq_div_pow]; exact Nat.div_le_self _ _
  unfold sBt
  rw [zshr_n ha hk]
  have e1 : (1 : Int) = ((1 : Nat) : Int) := rfl
  rw [e1, zand_n (by omega), Bool.eq_iff_iff]
  simp only [decide_eq_true_eq]
  rw [Nat.testBit, Nat.and_comm 1]
  have := Nat.and_one_is_mod (a >>> k)
  rw [this]
  have h2 := Nat.mod_lt (a >>> k) (show 0 < 2 by omega)
  simp only [bne_iff_ne]
  omega
theorem bt01 {a k : Nat} (ha : a < 2147483648) (hk : k < 32) : zand (zshr a k) 1 = if a.testBit k then 1 else 0 := by
  have hle : a >>> k ≤ a := by rw [Nat.shiftRight_eq_div_pow]; exact Nat.div_le_self _ _
  have e := sBt_n ha hk
  have h01 : zand (zshr a k) 1 = 0 ∨ zand (zshr a k) 1 = 1 := by
    rw [zshr_n ha hk]
    have e1 : (1 : Int) = ((1 : Nat) : Int) := rfl
    rw [e1, zand_n (by omega), Nat.and_one_is_mod]
    have h2 := Nat.mod_lt (a >>> k) (show 0 < 2 by omega)
    omega
  unfold sBt at e
  rcases h01 with h | h <;> rw [h] at e ⊢ <;> simp at e <;> simp [← e]
theorem or_bit {a j k : Nat} : (a ||| 2 ^ j).testBit k = (a.testBit k || decide (j = k)) := by
  rw [Nat.testBit_or, Nat.testBit_two_pow]
theorem or_lt {a j n : Nat} (ha : a < 2 ^ n) (hj : j < n) : a ||| 2 ^ j < 2 ^ n := Nat.or_lt_two_pow ha (Nat.pow_lt_pow_right (by omega) hj)
theorem zor_bit {a j : Nat} (ha : a < 2 ^ 24) (hj : j < 24) : zor a (zshl 1 j) = ((a ||| 2 ^ j : Nat) : Int) := by
  rw [zshl1 (by omega)]
  have h2 : 2 ^ j < 2 ^ 24 := Nat.pow_lt_pow_right (by omega) hj
  exact zor_n (by omega) (by omega)
-- how many bits of 24
theorem and_split {a b m n : Nat} (ha : a < 256) (hm : m < 256) : (a + 256 * b) &&& (m + 256 * n) = (a &&& m) + 256 * (b &&& n) := by
  have h1 : (a + 256 * b) &&& (m + 256 * n) = ((a + 256 * b) &&& (m + 256 * n)) % 2 ^ 8 + 2 ^ 8 * (((a + 256 * b) &&& (m + 256 * n)) / 2 ^ 8) := (Nat.mod_add_div _ _).symm
  rw [h1, Nat.and_mod_two_pow, Nat.and_div_two_pow]
  have e1 : (a + 256 * b) % 2 ^ 8 = a := by omega
  have e2 : (m + 256 * n) % 2 ^ 8 = m := by omega
  have e3 : (a + 256 * b) / 2 ^ 8 = b := by omega
  have e4 : (m + 256 * n) / 2 ^ 8 = n := by omega
  rw [e1, e2, e3, e4]
theorem and3 {a b c m : Nat} (ha : a < 256) (hb : b < 256) (hc : c < 256) (hm : m < 256) : (a + 256 * (b + 256 * c)) &&& (m + 256 * (m + 256 * (m + 256 * m))) = (a &&& m) + 256 * ((b &&& m) + 256 * (c &&& m)) := by
  rw [and_split ha hm, and_split hb hm]
  have e : c &&& (m + 256 * m) = c &&& m := by
    have h := and_split (a := c) (b := 0) (m := m) (n := m) hc hm
    rw [Nat.mul_zero, Nat.add_zero, Nat.zero_and, Nat.mul_zero, Nat.add_zero] at h
    exact h
  rw [e]
def pc8 (a : Nat) : Nat := (a.testBit 0).toNat + (a.testBit 1).toNat + (a.testBit 2).toNat + (a.testBit 3).toNat + (a.testBit 4).toNat + (a.testBit 5).toNat + (a.testBit 6).toNat + (a.testBit 7).toNat
theorem b8_1 : ∀ a : Fin 256, ∀ q : Fin 2, ((a.val / 2 + 128 * q.val) &&& 85) = ((a.val / 2) &&& 85) ∧ (a.val / 2) &&& 85 ≤ a.val := by decide +kernel
def g1 (a : Nat) : Nat := a - ((a / 2) &&& 85)
theorem b8_2 : ∀ a : Fin 256, ∀ q : Fin 4, ((g1 a.val / 4 + 64 * q.val) &&& 51) = ((g1 a.val / 4) &&& 51) ∧ g1 a.val < 256 ∧ (g1 a.val &&& 51) + ((g1 a.val / 4) &&& 51) < 256 := by decide +kernel
def g2 (a : Nat) : Nat := (g1 a &&& 51) + ((g1 a / 4) &&& 51)
theorem b8_3 : ∀ a : Fin 256, ∀ q : Fin 5, ((g2 a.val + g2 a.val / 16 + 16 * q.val) &&& 15) = pc8 a.val ∧ g2 a.val + g2 a.val / 16 + 16 * q.val < 256 ∧ g2 a.val % 16 < 5 ∧ g2 a.val < 256 ∧ pc8 a.val ≤ 8 := by decide +kernel
def pc24 (n : Nat) : Nat := pc8 (n % 256) + pc8 (n / 256 % 256) + pc8 (n / 65536)
theorem m_5 : (1431655765 : Nat) = 85 + 256 * (85 + 256 * (85 + 256 * 85)) := by decide
theorem m_3 : (858993459 : Nat) = 51 + 256 * (51 + 256 * (51 + 256 * 51)) := by decide
theorem m_f : (252645135 : Nat) = 15 + 256 * (15 + 256 * (15 + 256 * 15)) := by decide
theorem st_1 {a b c : Nat} (ha : a < 256) (hb : b < 256) (hc : c < 256) : (a + 256 * (b + 256 * c)) - (((a + 256 * (b + 256 * c)) >>> 1) &&& 1431655765) = g1 a + 256 * (g1 b + 256 * g1 c) ∧ (((a + 256 * (b + 256 * c)) >>> 1) &&& 1431655765) ≤ a + 256 * (b + 256 * c) := by
  have e : (a + 256 * (b + 256 * c)) >>> 1 = (a / 2 + 128 * (b % 2)) + 256 * ((b / 2 + 128 * (c % 2)) + 256 * (c / 2 + 128 * 0)) := by
    rw [Nat.shiftRight_eq_div_pow]
    omega
  rw [e, m_5, and3 (by omega) (by omega) (by omega) (by omega)]
  have ka := b8_1 ⟨a, ha⟩ ⟨b % 2, by omega⟩
  have kb := b8_1 ⟨b, hb⟩ ⟨c % 2, by omega⟩
  have kc := b8_1 ⟨c, hc⟩ ⟨0, by omega⟩
  simp only at ka kb kc
  rw [ka.1, kb.1, kc.1]
  unfold g1
  omega
theorem st_2 {a b c : Nat} (ha : a < 256) (hb : b < 256) (hc : c < 256) : ((g1 a + 256 * (g1 b + 256 * g1 c)) &&& 858993459) + (((g1 a + 256 * (g1 b + 256 * g1 c)) >>> 2) &&& 858993459) = g2 a + 256 * (g2 b + 256 * g2 c) := by
  have ka := b8_2 ⟨a, ha⟩ ⟨g1 b % 4, by omega⟩
  have kb := b8_2 ⟨b, hb⟩ ⟨g1 c % 4, by omega⟩
  have kc := b8_2 ⟨c, hc⟩ ⟨0, by omega⟩
  simp only at ka kb kc
  have e : (g1 a + 256 * (g1 b + 256 * g1 c)) >>> 2 = (g1 a / 4 + 64 * (g1 b % 4)) + 256 * ((g1 b / 4 + 64 * (g1 c % 4)) + 256 * (g1 c / 4 + 64 * 0)) := by
    rw [Nat.shiftRight_eq_div_pow]
    omega
  rw [e, m_3, and3 (by omega) (by omega) (by omega) (by omega), and3 (by omega) (by omega) (by omega) (by omega), ka.1, kb.1, kc.1]
  unfold g2
  omega
theorem st_3 {a b c : Nat} (ha : a < 256) (hb : b < 256) (hc : c < 256) : (((g2 a + 256 * (g2 b + 256 * g2 c)) + ((g2 a + 256 * (g2 b + 256 * g2 c)) >>> 4)) &&& 252645135) = pc8 a + 256 * (pc8 b + 256 * pc8 c) := by
  have hb5 := (b8_3 ⟨b, hb⟩ ⟨0, by omega⟩).2.2.1
  have hc5 := (b8_3 ⟨c, hc⟩ ⟨0, by omega⟩).2.2.1
  simp only at hb5 hc5
  have ka := b8_3 ⟨a, ha⟩ ⟨g2 b % 16, by omega⟩
  have kb := b8_3 ⟨b, hb⟩ ⟨g2 c % 16, by omega⟩
  have kc := b8_3 ⟨c, hc⟩ ⟨0, by omega⟩
  simp only at ka kb kc
  have e : (g2 a + 256 * (g2 b + 256 * g2 c)) + ((g2 a + 256 * (g2 b + 256 * g2 c)) >>> 4) = (g2 a + g2 a / 16 + 16 * (g2 b % 16)) + 256 * ((g2 b + g2 b / 16 + 16 * (g2 c % 16)) + 256 * (g2 c + g2 c / 16 + 16 * 0)) := by
    rw [Nat.shiftRight_eq_div_pow]
    omega
  rw [e, m_f, and3 (by omega) (by omega) (by omega) (by omega), ka.1, kb.1, kc.1]
theorem pc8_b (a : Nat) (ha : a < 256) : pc8 a ≤ 8 := (b8_3 ⟨a, ha⟩ ⟨0, by omega⟩).2.2.2.2
theorem g_b (a : Nat) (ha : a < 256) : g1 a < 256 ∧ g2 a < 256 := ⟨(b8_2 ⟨a, ha⟩ ⟨0, by omega⟩).2.1, (b8_3 ⟨a, ha⟩ ⟨0, by omega⟩).2.2.2.1⟩
section
variable {l : Launch} {G : zG} {d : Nat} {v : zH} {Q : Int → zH → Prop}
theorem c_bitCount {n : Nat} (hn : n < 2 ^ 24) (K : Q (pc24 n) v) : zC l G 1 (d + 1) h_Intg_bitCount [(0, (n : Int))] v 115 Q := by
  refine zC_at ok_Intg_bitCount ck_Intg_bitCount rfl rfl (sg_Intg_bitCount_0 ?_)
  obtain ⟨a, b, c, ha, hb, hc, e⟩ : ∃ a b c : Nat, a < 256 ∧ b < 256 ∧ c < 256 ∧ n = a + 256 * (b + 256 * c) := ⟨n % 256, n / 256 % 256, n / 65536, by omega, by omega, by omega, by omega⟩
  have ea : pc24 n = pc8 a + pc8 b + pc8 c := by
    unfold pc24
    have e1 : n % 256 = a := by omega
    have e2 : n / 256 % 256 = b := by omega
    have e3 : n / 65536 = c := by omega
    rw [e1, e2, e3]
  rw [ea] at K
  have l1 : (1 : Int) = ((1 : Nat) : Int) := rfl
  have l2 : (2 : Int) = ((2 : Nat) : Int) := rfl
  have l4 : (4 : Int) = ((4 : Nat) : Int) := rfl
  have l8 : (8 : Int) = ((8 : Nat) : Int) := rfl
  have l16 : (16 : Int) = ((16 : Nat) : Int) := rfl
  have l63 : (63 : Int) = ((63 : Nat) : Int) := rfl
  have lm5 : (1431655765 : Int) = ((1431655765 : Nat) : Int) := rfl
  have lm3 : (858993459 : Int) = ((858993459 : Nat) : Int) := rfl
  have lmf : (252645135 : Int) = ((252645135 : Nat) : Int) := rfl
  have ga := g_b a ha
  have gb := g_b b hb
  have gc := g_b c hc
  have pa := pc8_b a ha
  have pb := pc8_b b hb
  have pc := pc8_b c hc
  have hs1 := st_1 ha hb hc
  have hs2 := st_2 ha hb hc
  have hs3 := st_3 ha hb hc
  have z1 : (n : Int) - zand (zushr n 1) 1431655765 = ((g1 a + 256 * (g1 b + 256 * g1 c) : Nat) : Int) := by
    have hle : n >>> 1 ≤ n := by rw [Nat.shiftRight_eq_div_pow]; exact Nat.div_le_self _ _
    rw [l1, zushr_n (by omega) (by omega), lm5, zand_n (by omega), ← hs1.1, ← e]
    have := hs1.2
    rw [← e] at this
    omega
  rw [z1]
  clear z1
  generalize hx1 : g1 a + 256 * (g1 b + 256 * g1 c) = x1 at *
  have x1b : x1 < 16777216 := by omega
  have z2 : zand (x1 : Int) 858993459 + zand (zushr (x1 : Int) 2) 858993459 = ((g2 a + 256 * (g2 b + 256 * g2 c) : Nat) : Int) := by
    have hle : x1 >>> 2 ≤ x1 := by rw [Nat.shiftRight_eq_div_pow]; exact Nat.div_le_self _ _
    rw [l2, zushr_n (by omega) (by omega), lm3, zand_n (by omega), zand_n (by omega), ← hs2]
    omega
  rw [z2]
  clear z2
  generalize hx2 : g2 a + 256 * (g2 b + 256 * g2 c) = x2 at *
  have x2b : x2 < 16777216 := by omega
  have hle4 : x2 >>> 4 ≤ x2 := by rw [Nat.shiftRight_eq_div_pow]; exact Nat.div_le_self _ _
  have z3 : (x2 : Int) + zushr (x2 : Int) 4 = ((x2 + x2 >>> 4 : Nat) : Int) := by
    rw [l4, zushr_n (by omega) (by omega)]
    omega
  rw [z3]
  have z4 : zand ((x2 + x2 >>> 4 : Nat) : Int) 252645135 = ((pc8 a + 256 * (pc8 b + 256 * pc8 c) : Nat) : Int) := by
    rw [lmf, zand_n (by omega), hs3]
  rw [z4]
  clear z4 hs1 hs2 hs3
  generalize hx3 : pc8 a + 256 * (pc8 b + 256 * pc8 c) = x3 at *
  have x3b : x3 < 16777216 := by omega
  have hle8 : x3 >>> 8 = x3 / 256 := by rw [Nat.shiftRight_eq_div_pow]
  have z5 : (x3 : Int) + zushr (x3 : Int) 8 = ((x3 + x3 / 256 : Nat) : Int) := by
    rw [l8, zushr_n (by omega) (by omega), hle8]
    omega
  rw [z5]
  have hle16 : (x3 + x3 / 256) >>> 16 = (x3 + x3 / 256) / 65536 := by rw [Nat.shiftRight_eq_div_pow]
  have z6 : ((x3 + x3 / 256 : Nat) : Int) + zushr ((x3 + x3 / 256 : Nat) : Int) 16 = ((x3 + x3 / 256 + (x3 + x3 / 256) / 65536 : Nat) : Int) := by
    rw [l16, zushr_n (by omega) (by omega), hle16]
    omega
  rw [z6, l63, zand_n (by omega)]
  have z7 : (x3 + x3 / 256 + (x3 + x3 / 256) / 65536) &&& 63 = pc8 a + pc8 b + pc8 c := by
    have := Nat.and_two_pow_sub_one_eq_mod (x3 + x3 / 256 + (x3 + x3 / 256) / 65536) 6
    have e63 : 2 ^ 6 - 1 = 63 := rfl
    rw [e63] at this
    rw [this]
    have q1 : x3 / 256 = pc8 b + 256 * pc8 c := by clear z3 z5 z6; omega
    rw [q1]
    have q2 : (x3 + (pc8 b + 256 * pc8 c)) / 65536 = pc8 c := by clear z3 z5 z6; omega
    rw [q2]
    clear z3 z5 z6
    omega
  rw [z7]
  refine ⟨⟨by omega, by omega⟩, ⟨by omega, by omega⟩, ⟨by omega, by omega⟩, ⟨by omega, by omega⟩, ⟨by omega, by omega⟩, K⟩
end
theorem pc24_sm {n : Nat} (hn : n < 2 ^ 24) : (pc24 n : Int) = zsm (fun k => if n.testBit k.toNat = true then 1 else 0) 24 := by
  have h8 : ∀ j : Nat, j < 8 → (n % 256).testBit j = n.testBit j := fun j hj => by
    have := Nat.testBit_mod_two_pow n 8 j
    have e : 2 ^ 8 = 256 := rfl
    rw [e] at this
    rw [this]
    simp [hj]
  have h16 : ∀ j : Nat, j < 8 → (n / 256 % 256).testBit j = n.testBit (8 + j) := fun j hj => by
    have := Nat.testBit_mod_two_pow (n / 256) 8 j
    have e : 2 ^ 8 = 256 := rfl
    rw [e] at this
    rw [this]
    have h2 : (n / 2 ^ 8).testBit j = n.testBit (8 + j) := by rw [← Nat.shiftRight_eq_div_pow, Nat.testBit_shiftRight]
    rw [e] at h2
    rw [h2]
    simp [hj]
  have h24 : ∀ j : Nat, (n / 65536).testBit j = n.testBit (16 + j) := fun j => by
    have h2 : (n / 2 ^ 16).testBit j = n.testBit (16 + j) := by rw [← Nat.shiftRight_eq_div_pow, Nat.testBit_shiftRight]
    have e : 2 ^ 16 = 65536 := rfl
    rw [e] at h2
    rw [h2]
  have hb : ∀ b : Bool, ((b.toNat : Nat) : Int) = if b = true then 1 else 0 := fun b => by cases b <;> rfl
  unfold pc24 pc8
  rw [h8 0 (by omega), h8 1 (by omega), h8 2 (by omega), h8 3 (by omega), h8 4 (by omega), h8 5 (by omega), h8 6 (by omega), h8 7 (by omega), h16 0 (by omega), h16 1 (by omega), h16 2 (by omega), h16 3 (by omega), h16 4 (by omega), h16 5 (by omega), h16 6 (by omega), h16 7 (by omega), h24 0, h24 1, h24 2, h24 3, h24 4, h24 5, h24 6, h24 7]
  simp only [Nat.reduceAdd]
  have ez : zsm (fun k => if n.testBit k.toNat = true then (1 : Int) else 0) 24 = 0 + (if n.testBit 0 = true then 1 else 0) + (if n.testBit 1 = true then 1 else 0) + (if n.testBit 2 = true then 1 else 0) + (if n.testBit 3 = true then 1 else 0) + (if n.testBit 4 = true then 1 else 0) + (if n.testBit 5 = true then 1 else 0) + (if n.testBit 6 = true then 1 else 0) + (if n.testBit 7 = true then 1 else 0) + (if n.testBit 8 = true then 1 else 0) + (if n.testBit 9 = true then 1 else 0) + (if n.testBit 10 = true then 1 else 0) + (if n.testBit 11 = true then 1 else 0) + (if n.testBit 12 = true then 1 else 0) + (if n.testBit 13 = true then 1 else 0) + (if n.testBit 14 = true then 1 else 0) + (if n.testBit 15 = true then 1 else 0) + (if n.testBit 16 = true then 1 else 0) + (if n.testBit 17 = true then 1 else 0) + (if n.testBit 18 = true then 1 else 0) + (if n.testBit 19 = true then 1 else 0) + (if n.testBit 20 = true then 1 else 0) + (if n.testBit 21 = true then 1 else 0) + (if n.testBit 22 = true then 1 else 0) + (if n.testBit 23 = true then 1 else 0) := rfl
  rw [ez, ← hb, ← hb, ← hb, ← hb, ← hb, ← hb, ← hb, ← hb, ← hb, ← hb, ← hb, ← hb, ← hb, ← hb, ← hb, ← hb, ← hb, ← hb, ← hb, ← hb, ← hb, ← hb, ← hb, ← hb]
  omega
theorem pc_5 : ∀ x : Fin 32, (pc24 x.val : Int) = sPc ((x.val : Nat) : Int) := by decide +kernel
