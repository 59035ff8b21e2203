/-! numbers: from whole numbers to the machine's and back -/
theorem z32_toInt {x : Int} (h : zI x) : (Int32.ofInt x).toInt = x := Int32.toInt_ofInt_of_le (by have := h.1; simpa using this) (by have := h.2; omega)
theorem z32_of (x : Int32) : Int32.ofInt x.toInt = x := Int32.ofInt_toInt x
theorem z32_I (x : Int32) : zI x.toInt := ⟨by have := x.minValue_le_toInt; simpa using this, by have := x.toInt_lt; omega⟩
theorem z32_inj {x y : Int} (hx : zI x) (hy : zI y) : Int32.ofInt x = Int32.ofInt y ↔ x = y := ⟨fun h => by rw [← z32_toInt hx, ← z32_toInt hy, h], fun h => by rw [h]⟩
theorem z32_le {x y : Int} (hx : zI x) (hy : zI y) : Int32.ofInt x ≤ Int32.ofInt y ↔ x ≤ y := by rw [Int32.le_iff_toInt_le, z32_toInt hx, z32_toInt hy]
theorem z32_lt {x y : Int} (hx : zI x) (hy : zI y) : Int32.ofInt x < Int32.ofInt y ↔ x < y := by rw [Int32.lt_iff_toInt_lt, z32_toInt hx, z32_toInt hy]
theorem zI0 : zI 0 := ⟨by decide, by decide⟩
theorem z32_0 {x : Int} (hx : zI x) : Int32.ofInt x = 0 ↔ x = 0 := z32_inj hx zI0
theorem z32_le0 {x : Int} (hx : zI x) : Int32.ofInt x ≤ 0 ↔ x ≤ 0 := z32_le hx zI0
theorem z32_lt0 {x : Int} (hx : zI x) : Int32.ofInt x < 0 ↔ x < 0 := z32_lt hx zI0
theorem z32_ge0 {x : Int} (hx : zI x) : 0 ≤ Int32.ofInt x ↔ 0 ≤ x := z32_le zI0 hx
theorem z32_gt0 {x : Int} (hx : zI x) : 0 < Int32.ofInt x ↔ 0 < x := z32_lt zI0 hx
theorem z32_clamp {x : Int} (hx : zI x) : (Int32.ofInt x).toNatClampNeg = x.toNat := by
  show (Int32.ofInt x).toInt.toNat = _
  rw [z32_toInt hx]
theorem z64_toInt {x : Int} (h : zLg x) : (Int64.ofInt x).toInt = x := Int64.toInt_ofInt_of_le (by have := h.1; simpa using this) (by have := h.2; omega)
theorem z64_of (x : Int64) : Int64.ofInt x.toInt = x := Int64.ofInt_toInt x
theorem z64_lt {x y : Int} (hx : zLg x) (hy : zLg y) : Int64.ofInt x < Int64.ofInt y ↔ x < y := by rw [Int64.lt_iff_toInt_lt, z64_toInt hx, z64_toInt hy]
theorem z64_inj {x y : Int} (hx : zLg x) (hy : zLg y) : Int64.ofInt x = Int64.ofInt y ↔ x = y := ⟨fun h => by rw [← z64_toInt hx, ← z64_toInt hy, h], fun h => by rw [h]⟩
theorem z32_div {x y : Int} (hx : zI x) (hy : zI y) (hq : zI (x.tdiv y)) : Int32.ofInt x / Int32.ofInt y = Int32.ofInt (x.tdiv y) := by
  apply Int32.toInt_inj.mp
  rw [Int32.toInt_div, z32_toInt hx, z32_toInt hy, z32_toInt hq]
  exact Int.bmod_eq_of_le (by have := hq.1; simpa using this) (by have := hq.2; show x.tdiv y < _; simp; omega)
theorem z64_div {x y : Int} (hx : zLg x) (hy : zLg y) (hq : zLg (x.tdiv y)) : Int64.ofInt x / Int64.ofInt y = Int64.ofInt (x.tdiv y) := by
  apply Int64.toInt_inj.mp
  rw [Int64.toInt_div, z64_toInt hx, z64_toInt hy, z64_toInt hq]
  exact Int.bmod_eq_of_le (by have := hq.1; simpa using this) (by have := hq.2; show x.tdiv y < _; simp; omega)
theorem z32_rem {x y : Int} (hx : zI x) (hy : zI y) (hq : zI (x.tdiv y)) : Int32.ofInt x - Int32.ofInt x / Int32.ofInt y * Int32.ofInt y = Int32.ofInt (x.tmod y) := by
  rw [z32_div hx hy hq, ← Int32.ofInt_mul, ← Int32.ofInt_sub]
  congr 1
  have := Int.tmod_add_mul_tdiv x y
  have h2 : x.tdiv y * y = y * x.tdiv y := Int.mul_comm _ _
  omega
theorem zI_mod {x y : Int} (hx : zI x) (hq : ¬ y = 0) : zI (x.tmod y) := by
  have h1 := Int.tmod_add_mul_tdiv x y
  have h3 : (x.tmod y).natAbs ≤ x.natAbs := by
    rw [Int.natAbs_tmod]
    exact Nat.mod_le _ _
  have a := hx.1
  have b := hx.2
  by_cases h0 : 0 ≤ x
  · have : 0 ≤ x.tmod y := Int.tmod_nonneg y h0
    constructor <;> omega
  · constructor
    · omega
    · have : x.tmod y ≤ 0 := by
        have h5 := Int.neg_tmod x y
        have h6 : 0 ≤ (-x).tmod y := Int.tmod_nonneg y (by omega)
        omega
      omega
theorem zI_tdiv {x y : Int} (hx : zI x) (hy : 0 < y) : zI (x.tdiv y) := by
  have h3 : (x.tdiv y).natAbs ≤ x.natAbs := by
    rw [Int.natAbs_tdiv]
    exact Nat.div_le_self _ _
  have a := hx.1
  have b := hx.2
  by_cases h0 : 0 ≤ x
  · have : 0 ≤ x.tdiv y := Int.tdiv_nonneg h0 (by omega)
    constructor <;> omega
  · constructor
    · omega
    · have h6 : 0 ≤ (-x).tdiv y := Int.tdiv_nonneg (by omega) (by omega)
      rw [Int.neg_tdiv] at h6
      omega
theorem z_i2l {x : Int} (hx : zI x) : (Int32.ofInt x).toInt64 = Int64.ofInt x := by
  apply Int64.toInt_inj.mp
  rw [Int32.toInt_toInt64, z32_toInt hx, z64_toInt ⟨by have := hx.1; omega, by have := hx.2; omega⟩]
theorem z_l2i (x : Int) : (Int64.ofInt x).toInt32 = Int32.ofInt x := Int64.toInt32_ofInt
theorem z_i8 {k : Int} (h1 : -128 ≤ k) (h2 : k ≤ 127) : (Int8.ofInt k).toInt32 = Int32.ofInt k := by
  apply Int32.toInt_inj.mp
  rw [Int8.toInt_toInt32, Int8.toInt_ofInt_of_le (by simpa using h1) (by omega), z32_toInt ⟨by omega, by omega⟩]
theorem z_i16 {k : Int} (h1 : -32768 ≤ k) (h2 : k ≤ 32767) : (Int16.ofInt k).toInt32 = Int32.ofInt k := by
  apply Int32.toInt_inj.mp
  rw [Int16.toInt_toInt32, Int16.toInt_ofInt_of_le (by simpa using h1) (by omega), z32_toInt ⟨by omega, by omega⟩]
theorem z_i2c {x : Int} (h1 : 0 ≤ x) (h2 : x ≤ 65535) : ((Int32.ofInt x).toUInt32 % 65536).toInt32 = Int32.ofInt x := by
  obtain ⟨n, rfl⟩ : ∃ n : Nat, x = n := ⟨x.toNat, by omega⟩
  have := pk_char (nI n)
  have e : Int32.ofInt (n : Int) = nI n := by rfl
  rw [e, this]
  rw [pk_tn (by omega), Nat.mod_eq_of_lt (by omega)]
theorem z_in {x : Int} {n : Nat} {b : Int} (hb : b.toNat = n) (h0 : 0 ≤ x) (h1 : x < b) (hx : zI x) : vp_in (Int32.ofInt x) n := by
  intro h
  rcases h with h | h
  · exact absurd ((z32_lt0 hx).mp h) (by omega)
  · rw [z32_clamp hx] at h
    omega
theorem z_nat (n : Nat) : Int32.ofInt (n : Int) = Int32.ofNat n := rfl
