/-! THE CLASS: kinds as they are told -/
def KP (v : zH) (o κ n : Int) (g : Int → Int) : Prop := v o 6 = n ∧ ∀ j : Int, 0 ≤ j → j < kN κ * n → v (o + 1) j = g j
theorem KP_fr {v v' : zH} {o κ n : Int} {g : Int → Int} (h0 : v' o = v o) (h1 : v' (o + 1) = v (o + 1)) (k : KP v o κ n g) : KP v' o κ n g := by
  unfold KP
  rw [h0, h1]
  exact k
theorem kd_c (o : Int) : zKd o = 0 ∨ zKd o = 1 ∨ zKd o = 2 := by
  unfold zKd
  split
  · simp
  · split <;> simp
theorem kd_tab : ∀ κ : Fin 3, ∀ k : Fin 5, (k.val : Int) < kN ((κ.val : Nat) : Int) → zSA (-4 - 3 * ((κ.val : Nat) : Int)) ((k.val : Nat) : Int) = kDf ((κ.val : Nat) : Int) ((k.val : Nat) : Int) ∧ zSA (-2 - 3 * ((κ.val : Nat) : Int)) ((k.val : Nat) : Int) = kLo ((κ.val : Nat) : Int) ((k.val : Nat) : Int) ∧ zSA (-3 - 3 * ((κ.val : Nat) : Int)) ((k.val : Nat) : Int) = kHi ((κ.val : Nat) : Int) ((k.val : Nat) : Int) ∧ kIt ((κ.val : Nat) : Int) (zand (zLA (-31 - ((κ.val : Nat) : Int)) ((k.val : Nat) : Int)) 255) = ((k.val : Nat) : Int) := by decide +kernel
theorem kd_t {κ k : Int} (hκ : κ = 0 ∨ κ = 1 ∨ κ = 2) (h0 : 0 ≤ k) (h1 : k < kN κ) : zSA (-4 - 3 * κ) k = kDf κ k ∧ zSA (-2 - 3 * κ) k = kLo κ k ∧ zSA (-3 - 3 * κ) k = kHi κ k ∧ kIt κ (zand (zLA (-31 - κ) k) 255) = k := by
  have hn := kN_c κ
  have := kd_tab ⟨κ.toNat, by omega⟩ ⟨k.toNat, by omega⟩
  simp only at this
  have e1 : ((κ.toNat : Nat) : Int) = κ := by omega
  have e2 : ((k.toNat : Nat) : Int) = k := by omega
  rw [e1, e2] at this
  exact this h1
theorem it_miss {κ c : Int} (hκ : κ = 0 ∨ κ = 1 ∨ κ = 2) (h : ∀ k : Int, 0 ≤ k → k < kN κ → zand (zLA (-31 - κ) k) 255 ≠ c) : kIt κ c = -1 := by
  have e00 : zand (zLA (-31 - 0) 0) 255 = 116 := by decide
  have e01 : zand (zLA (-31 - 0) 1) 255 = 104 := by decide
  have e02 : zand (zLA (-31 - 0) 2) 255 = 103 := by decide
  have e10 : zand (zLA (-31 - 1) 0) 255 = 114 := by decide
  have e11 : zand (zLA (-31 - 1) 1) 255 = 99 := by decide
  have e12 : zand (zLA (-31 - 1) 2) 255 = 102 := by decide
  have e13 : zand (zLA (-31 - 1) 3) 255 = 117 := by decide
  have e14 : zand (zLA (-31 - 1) 4) 255 = 104 := by decide
  have e20 : zand (zLA (-31 - 2) 0) 255 = 119 := by decide
  have e21 : zand (zLA (-31 - 2) 1) 255 = 102 := by decide
  unfold kIt
  rcases hκ with rfl | rfl | rfl
  · have h0 := h 0 (by omega) (by decide)
    have h1 := h 1 (by omega) (by decide)
    have h2 := h 2 (by omega) (by decide)
    rw [e00] at h0
    rw [e01] at h1
    rw [e02] at h2
    rw [if_pos rfl, if_neg (fun q => h0 q.symm), if_neg (fun q => h1 q.symm), if_neg (fun q => h2 q.symm)]
  · have h0 := h 0 (by omega) (by decide)
    have h1 := h 1 (by omega) (by decide)
    have h2 := h 2 (by omega) (by decide)
    have h3 := h 3 (by omega) (by decide)
    have h4 := h 4 (by omega) (by decide)
    rw [e10] at h0
    rw [e11] at h1
    rw [e12] at h2
    rw [e13] at h3
    rw [e14] at h4
    rw [if_neg (by decide), if_pos rfl, if_neg (fun q => h0 q.symm), if_neg (fun q => h1 q.symm), if_neg (fun q => h2 q.symm), if_neg (fun q => h3 q.symm), if_neg (fun q => h4 q.symm)]
  · have h0 := h 0 (by omega) (by decide)
    have h1 := h 1 (by omega) (by decide)
    rw [e20] at h0
    rw [e21] at h1
    rw [if_neg (by decide), if_neg (by decide), if_neg (fun q => h0 q.symm), if_neg (fun q => h1 q.symm)]
theorem zki_g {o : Int} (h : zki o) : zKT 1 o = -11 - zKd o ∧ zKT 2 o = -2 - 3 * zKd o ∧ zKT 3 o = -3 - 3 * zKd o ∧ zKT 4 o = -4 - 3 * zKd o ∧ zCL (zKT 1 o) = 26 ∧ zCL (zKT 2 o) = 25 ∧ zCL (zKT 3 o) = 25 ∧ zLN (zKT 2 o) = kN (zKd o) ∧ zLN (zKT 3 o) = kN (zKd o) ∧ zLN (zKT 1 o - 20) = kN (zKd o) ∧ zCL (zKT 1 o - 20) = 28 := by
  rcases h with rfl | rfl | rfl | rfl | rfl | rfl <;> decide
section
variable {l : Launch} {G : zG} {d : Nat} {v : zH} {Q : Int → zH → Prop}
theorem c_Str_coder {a : Int} (ha : zCL a = 26) (K : Q 0 v) : zC l G 1 (d + 1) h_Str_coder [(2, a)] v 115 Q := by
  refine zC_at ok_Str_coder ck_Str_coder rfl rfl (sg_Str_coder_0 ?_)
  refine ⟨fun q1 => ⟨⟨by first | decide | omega, by first | decide | omega⟩, ?_⟩, fun q2 => ⟨by first | decide | omega, ⟨by first | decide | omega, by first | decide | omega⟩, ?_⟩⟩
  try (any_goals (exfalso; first | omega | exact absurd trivial (by assumption)))
  exact K
theorem c_Str_isLatin1 {a : Int} (ha : zCL a = 26) (K : Q 1 v) : zC l G 1 (d + 1) h_Str_isLatin1 [(2, a)] v 115 Q := by
  refine zC_at ok_Str_isLatin1 ck_Str_isLatin1 rfl rfl (sg_Str_isLatin1_0 ?_)
  refine ⟨fun q1 => ⟨by first | decide | omega, ?_⟩, fun q2 => ⟨by first | decide | omega, ⟨fun q3 => ⟨by first | decide | omega, ?_⟩, fun q4 => ⟨by first | decide | omega, ?_⟩⟩⟩⟩
  try (any_goals (exfalso; first | omega | exact absurd trivial (by assumption)))
  exact K
theorem zshr0 {x : Int} (h : 0 ≤ x ∧ x ≤ 100) : zshr x 0 = x := by
  obtain ⟨n, rfl⟩ : ∃ n : Nat, x = n := ⟨x.toNat, by omega⟩
  have := zshr_n (a := n) (k := 0) (by omega) (by omega)
  rw [Nat.shiftRight_zero] at this
  exact this
theorem c_Str_length {a : Int} (ha : zCL a = 26) (h2 : zCL (a - 20) = 28) (hl : 0 ≤ zLN (a - 20) ∧ zLN (a - 20) ≤ 100) (K : Q (zLN (a - 20)) v) : zC l G 1 (d + 2) h_Str_length [(2, a)] v 115 Q := by
  refine zC_at ok_Str_length ck_Str_length rfl rfl (sg_Str_length_0 ?_)
  refine ⟨by first | decide | omega, by first | decide | omega, by first | decide | omega, ?_⟩
  refine c_Str_coder ha ?_
  show Q (zshr (zLN (a - 20)) 0) v
  rw [zshr0 hl]
  exact K
set_option maxRecDepth 100000 in
theorem sg5_Pre_checkIndex {QX : Nat → zH → Prop} {K : Nat → List zV → List zV → zH → Nat → Prop} {a0 a1 x : Int} (h : (a0 < 0 → False) ∧ (0 ≤ a0 → ((a0 < a1 → Q a0 v) ∧ (a1 ≤ a0 → False)))) : zx l G 1 (d + 1) h_Pre_checkIndex k_Pre_checkIndex 115 Q QX K 300 (k_Pre_checkIndex.drop 0) [(0, a0), (0, a1), (5, x)] [] v 115 := h
theorem c_Pre_checkIndex {a n x : Int} (h : 0 ≤ a ∧ a < n) (K : Q a v) : zC l G 1 (d + 1) h_Pre_checkIndex [(0, a), (0, n), (5, x)] v 115 Q := by
  refine zC_at ok_Pre_checkIndex ck_Pre_checkIndex rfl rfl (sg5_Pre_checkIndex ?_)
  exact ⟨fun q => by omega, fun _ => ⟨fun _ => K, fun q => by omega⟩⟩
theorem c_Str_checkIndex {a n : Int} (h : 0 ≤ a ∧ a < n) (K : Q 0 v) : zC l G 1 (d + 2) h_Str_checkIndex [(0, a), (0, n)] v 115 Q := by
  refine zC_at ok_Str_checkIndex ck_Str_checkIndex rfl rfl (sg_Str_checkIndex_0 ?_)
  exact c_Pre_checkIndex h K
theorem zand255 (x : Int) : 0 ≤ zand x 255 ∧ zand x 255 ≤ 255 := by
  unfold zand
  obtain ⟨n, -, e⟩ := n32 (Int32.ofInt x)
  rw [e]
  have e255 : Int32.ofInt 255 = nI 255 := zb_o 255
  rw [e255, nx_and]
  have : n &&& 255 ≤ 255 := Nat.and_le_right
  rw [zb_i (by omega)]
  omega
theorem c_SL1_charAt {a i : Int} (ha : zCL a = 28) (h : 0 ≤ i ∧ i < zLN a) (K : Q (zand (zLA a i) 255) v) : zC l G 1 (d + 3) h_SL1_charAt [(2, a), (0, i)] v 115 Q := by
  have hb := zand255 (zLA a i)
  refine zC_at ok_SL1_charAt ck_SL1_charAt rfl rfl (sg_SL1_charAt_0 ?_)
  refine ⟨by first | decide | omega, ?_⟩
  refine c_Str_checkIndex h ?_
  refine ⟨by first | decide | omega, ⟨by first | decide | omega, by first | decide | omega⟩, ⟨by first | decide | omega, by first | decide | omega⟩, ⟨by first | decide | omega, by first | decide | omega⟩, ?_⟩
  exact K
theorem c_Str_charAt {a i : Int} (ha : zCL a = 26) (h2 : zCL (a - 20) = 28) (h : 0 ≤ i ∧ i < zLN (a - 20)) (K : Q (zand (zLA (a - 20) i) 255) v) : zC l G 1 (d + 4) h_Str_charAt [(2, a), (0, i)] v 115 Q := by
  have hb := zand255 (zLA (a - 20) i)
  refine zC_at ok_Str_charAt ck_Str_charAt rfl rfl (sg_Str_charAt_0 ?_)
  refine ⟨by first | decide | omega, ?_⟩
  try (any_goals (exfalso; first | omega | exact absurd trivial (by assumption)))
  refine c_Str_isLatin1 ha ?_
  refine ⟨fun q => absurd q (by decide), fun _ => ⟨ha, ?_⟩⟩
  refine c_SL1_charAt h2 h ?_
  refine ⟨⟨by first | decide | omega, by first | decide | omega⟩, ?_⟩
  exact K
theorem it_2 {o c : Int} {QX : Nat → zH → Prop} (ho : zki o) (K : Q (kIt (zKd o) c) v) : ∀ (m i : Nat), (i : Int) + m = kN (zKd o) → (∀ k : Int, 0 ≤ k → k < i → zand (zLA (-31 - zKd o) k) 255 ≠ c) →
    zJ l G 1 (d + 5) h_Ki_itemOf k_Ki_itemOf 115 Q QX 2 [(2, o), (0, c), (0, (i : Int))] [] v 115
  | m, i, hi, hm => by
    obtain ⟨f1, -⟩ := zki_f ho
    obtain ⟨g1, g2, g3, g4, g5, g6, g7, g8, g9, g10, g11⟩ := zki_g ho
    have hn := kN_c (zKd o)
    have hk := kd_c o
    have e20 : zKT 1 o - 20 = -31 - zKd o := by omega
    refine zgo ck_Ki_itemOf 300 2 _ _ _ _ rfl (sg_Ki_itemOf_2 ?_)
    refine ⟨by first | decide | omega, by first | decide | omega, ?_⟩
    try (any_goals (exfalso; first | omega | exact absurd trivial (by assumption)))
    refine c_Str_length g5 g11 (by omega) ?_
    rw [g10]
    match m, hi with
    | 0, hi =>
      refine ⟨fun q1 => ?_, fun q2 => ⟨by first | decide | omega, by first | decide | omega, ?_⟩⟩
      try (any_goals (exfalso; first | omega | exact absurd trivial (by assumption)))
      rw [it_miss hk (fun k h1 h2 => hm k h1 (by omega))] at K
      exact K
    | m + 1, hi =>
      refine ⟨fun q1 => ?_, fun q2 => ⟨by first | decide | omega, by first | decide | omega, ?_⟩⟩
      try (any_goals (exfalso; first | omega | exact absurd trivial (by assumption)))
      refine c_Str_charAt g5 g11 (by omega) ?_
      rw [e20]
      have ht := (kd_t hk (k := (i : Int)) (by omega) (by omega)).2.2.2
      by_cases hc : zand (zLA (-31 - zKd o) i) 255 = c
      · rw [← hc, ht] at K
        exact ⟨fun q => absurd hc q, fun _ => K⟩
      · refine ⟨fun _ => ⟨⟨by omega, by omega⟩, ?_⟩, fun q => absurd q hc⟩
        exact it_2 ho K m (i + 1) (by omega) (fun k h1 h2 => by
          by_cases e : k = i
          · rw [e]; exact hc
          · exact hm k h1 (by omega))
theorem c_Ki_itemOf {o c : Int} (ho : zki o) (K : Q (kIt (zKd o) c) v) : zC l G 1 (d + 5) h_Ki_itemOf [(2, o), (0, c)] v 115 Q := by
  have hn := kN_c (zKd o)
  refine zC_at ok_Ki_itemOf ck_Ki_itemOf rfl rfl (sg_Ki_itemOf_0 ?_)
  exact it_2 ho K (kN (zKd o)).toNat 0 (by omega) (fun k h1 h2 => by omega)
theorem ad_9 {o n : Int} {g : Int → Int} {v0 : zH} {QX : Nat → zH → Prop} (ho : zki o) (hn : 0 ≤ n ∧ n < kMx (zKd o)) (K : ∀ v' : zH, (∀ b : Int, b ≠ o → b ≠ o + 1 → v' b = v0 b) → KP v' o (zKd o) (n + 1) (uDf (zKd o) n g) → Q 1 v') :
    ∀ (m i : Nat) {v : zH}, (i : Int) + m = kN (zKd o) → (∀ b : Int, b ≠ o + 1 → v b = v0 b) → v0 o 6 = n → (∀ j : Int, 0 ≤ j → j < kN (zKd o) * n → v (o + 1) j = g j) → (∀ k : Int, 0 ≤ k → k < i → v (o + 1) (kN (zKd o) * n + k) = kDf (zKd o) k) →
    zJ l G 1 (d + 1) h_Ki_addsOne k_Ki_addsOne 115 Q QX 9 [(2, o), (0, (i : Int))] [] v 115
  | m, i, v, hi, hF, h6, hg, hd => by
    obtain ⟨f1, f2, f3, f4, f5, f6⟩ := zki_f ho
    obtain ⟨g1, g2, g3, g4, -⟩ := zki_g ho
    have hk := kd_c o
    have e6 : v o 6 = n := by rw [hF o (by omega)]; exact h6
    have hnn : 0 ≤ n * kN (zKd o) ∧ n * kN (zKd o) + kN (zKd o) ≤ zLN (o + 1) ∧ zLN (o + 1) ≤ 15 ∧ n ≤ 5 := by
      rcases f6 with ⟨e, e2, e3⟩ | ⟨e, e2, e3⟩ | ⟨e, e2, e3⟩ <;> rw [e, e2] <;> omega
    have hm1 : kN (zKd o) * (n + 1) = kN (zKd o) * n + kN (zKd o) := by rw [Int.mul_add, Int.mul_one]
    have hcm : n * kN (zKd o) = kN (zKd o) * n := Int.mul_comm _ _
    refine zgo ck_Ki_addsOne 300 9 _ _ _ _ rfl (sg_Ki_addsOne_9 ?_)
    simp only [e6, f4]
    rw [hcm] at hnn ⊢
    match m, hi with
    | 0, hi =>
      refine ⟨by first | decide | omega, by first | decide | omega, ⟨fun q1 => ⟨by first | decide | omega, ⟨by first | decide | omega, by first | decide | omega⟩, by first | decide | omega, by first | decide | omega, ?_⟩, fun q2 => ⟨by first | decide | omega, by first | decide | omega, by first | decide | omega, by first | decide | omega, ⟨by first | decide | omega, by first | decide | omega⟩, ⟨by first | decide | omega, by first | decide | omega⟩, by first | decide | omega, by first | decide | omega, ⟨by first | decide | omega, by first | decide | omega⟩, by first | decide | omega, ⟨by first | decide | omega, by first | decide | omega⟩, ⟨by first | decide | omega, by first | decide | omega⟩, ?_⟩⟩⟩
      try (any_goals (exfalso; first | omega | exact absurd trivial (by assumption)))
      refine K _ (fun b q1 q2 => (zup_a q1).trans (hF b q2)) ⟨zup_e rfl rfl, fun j h1 h2 => ?_⟩
      rw [zup_a (by omega)]
      unfold uDf
      split
      · rename_i q
        have := hd (j - kN (zKd o) * n) (by omega) (by omega)
        rw [show kN (zKd o) * n + (j - kN (zKd o) * n) = j by omega] at this
        exact this
      · rename_i q
        exact hg j h1 (by omega)
    | m + 1, hi =>
      refine ⟨by first | decide | omega, by first | decide | omega, ⟨fun q1 => ⟨by first | decide | omega, ⟨by first | decide | omega, by first | decide | omega⟩, by first | decide | omega, by first | decide | omega, ?_⟩, fun q2 => ⟨by first | decide | omega, by first | decide | omega, by first | decide | omega, by first | decide | omega, ⟨by first | decide | omega, by first | decide | omega⟩, ⟨by first | decide | omega, by first | decide | omega⟩, by first | decide | omega, by first | decide | omega, ⟨by first | decide | omega, by first | decide | omega⟩, by first | decide | omega, ⟨by first | decide | omega, by first | decide | omega⟩, ⟨by first | decide | omega, by first | decide | omega⟩, ?_⟩⟩⟩
      try (any_goals (exfalso; first | omega | exact absurd trivial (by assumption)))
      refine ad_9 ho hn K m (i + 1) (by omega) (fun b q => (zup_a q).trans (hF b q)) h6 (fun j h1 h2 => ?_) (fun k h1 h2 => ?_)
      · rw [zup_j (by omega)]
        exact hg j h1 h2
      · by_cases e : k = i
        · rw [zup_e rfl (by omega), e, g4]
          exact (kd_t hk (by omega) (by omega)).1
        · rw [zup_j (by omega)]
          exact hd k h1 (by omega)
theorem c_Ki_addsOne {o n : Int} {g : Int → Int} (ho : zki o) (hn : 0 ≤ n ∧ n ≤ kMx (zKd o)) (hk : KP v o (zKd o) n g) (K0 : n = kMx (zKd o) → Q 0 v) (K1 : n ≠ kMx (zKd o) → ∀ v' : zH, (∀ b : Int, b ≠ o → b ≠ o + 1 → v' b = v b) → KP v' o (zKd o) (n + 1) (uDf (zKd o) n g) → Q 1 v') : zC l G 1 (d + 1) h_Ki_addsOne [(2, o)] v 115 Q := by
  obtain ⟨f1, f2, f3, f4, f5, f6⟩ := zki_f ho
  have hc := kN_c (zKd o)
  refine zC_at ok_Ki_addsOne ck_Ki_addsOne rfl rfl (sg_Ki_addsOne_0 ?_)
  simp only [hk.1, f5]
  refine ⟨by first | decide | omega, by first | decide | omega, ⟨fun q1 => ?_, fun q2 => ⟨by first | decide | omega, ?_⟩⟩⟩
  try (any_goals (exfalso; first | omega | exact absurd trivial (by assumption)))
  · exact ad_9 (g := g) ho (by omega) (K1 (by omega)) (kN (zKd o)).toNat 0 (by omega) (fun _ _ => rfl) hk.1 hk.2 (fun k h1 h2 => by omega)
  · exact K0 (by omega)
theorem c_Ki_tells {o n k x : Int} {g : Int → Int} (ho : zki o) (hn : 1 ≤ n ∧ n ≤ kMx (zKd o)) (hk : KP v o (zKd o) n g) (hi : 0 ≤ k ∧ k < kN (zKd o)) (K0 : ¬ (kLo (zKd o) k ≤ x ∧ x ≤ kHi (zKd o) k) → Q 0 v) (K1 : kLo (zKd o) k ≤ x ∧ x ≤ kHi (zKd o) k → ∀ v' : zH, (∀ b : Int, b ≠ o + 1 → v' b = v b) → KP v' o (zKd o) n (upf g (kN (zKd o) * (n - 1) + k) x) → Q 1 v') : zC l G 1 (d + 1) h_Ki_tells [(2, o), (0, k), (0, x)] v 115 Q := by
  obtain ⟨f1, f2, f3, f4, f5, f6⟩ := zki_f ho
  obtain ⟨g1, g2, g3, g4, g5, g6, g7, g8, g9, g10, g11⟩ := zki_g ho
  have ht := kd_t (kd_c o) hi.1 hi.2
  have hnn : 0 ≤ (n - 1) * kN (zKd o) ∧ (n - 1) * kN (zKd o) + kN (zKd o) ≤ zLN (o + 1) ∧ zLN (o + 1) ≤ 15 ∧ n ≤ 5 := by
    rcases f6 with ⟨e, e2, e3⟩ | ⟨e, e2, e3⟩ | ⟨e, e2, e3⟩ <;> rw [e, e2] <;> omega
  have hcm : (n - 1) * kN (zKd o) = kN (zKd o) * (n - 1) := Int.mul_comm _ _
  refine zC_at ok_Ki_tells ck_Ki_tells rfl rfl (sg_Ki_tells_0 ?_)
  simp only [hk.1, f4, g2, g3, ht.2.1, ht.2.2.1]
  rw [hcm] at hnn ⊢
  rw [g2] at g6 g8
  rw [g3] at g7 g9
  refine ⟨by first | decide | omega, ⟨fun q1 => ⟨by first | decide | omega, ?_⟩, fun q2 => ⟨fun q3 => ⟨by first | decide | omega, ?_⟩, fun q4 => ⟨by first | decide | omega, by first | decide | omega, ⟨fun q5 => ⟨by first | decide | omega, ?_⟩, fun q6 => ⟨by first | decide | omega, by first | decide | omega, ⟨by first | decide | omega, by first | decide | omega⟩, ⟨fun q7 => ⟨by first | decide | omega, ?_⟩, fun q8 => ⟨by first | decide | omega, by first | decide | omega, ⟨by first | decide | omega, by first | decide | omega⟩, ⟨fun q9 => ⟨by first | decide | omega, by first | decide | omega, ⟨by first | decide | omega, by first | decide | omega⟩, by first | decide | omega, by first | decide | omega, ⟨by first | decide | omega, by first | decide | omega⟩, ⟨by first | decide | omega, by first | decide | omega⟩, by first | decide | omega, ⟨by first | decide | omega, by first | decide | omega⟩, by first | decide | omega, ?_⟩, fun q10 => ⟨by first | decide | omega, ?_⟩⟩⟩⟩⟩⟩⟩⟩⟩⟩
  try (any_goals (exfalso; first | omega | exact absurd trivial (by assumption)))
  · exact K0 (by omega)
  · refine K1 (by omega) _ (fun b q => zup_a q) ⟨(congrFun (zup_a (by omega)) 6).trans hk.1, fun j h1 h2 => ?_⟩
    unfold upf
    split
    · rename_i e
      exact zup_e rfl e
    · rename_i e
      rw [zup_j e]
      exact hk.2 j h1 h2
  · exact K0 (by omega)
end
