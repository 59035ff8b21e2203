/-! THE CLASS: kinds as they are told -/
def KP (v : zH) (o κ n : Int) (g : Int → Int) : Prop := v o 6 = n ∧ ∀ j : Int, 0 ≤ j → j < kN κ * n → v (o + 1) j = g j
theorem KP_fr {v v' : zH} {o κ n : Int} {g : Int → Int} (h0 : v' o = v o) (h1 : v' (o + 1) = v (o + 1)) (k : KP v o κ n g) : KP v' o κ n g := by
  unfold KP
  rw [h0, h1]
  exact k
theorem kd_c (o : Int) : zKd o = 0 ∨ zKd o = 1 ∨ zKd o = 2 := by
  unfold zKd
  split
  · simp
  · split <;> simp
theorem kd_tab : ∀ κ : Fin 3, ∀ k : Fin 5, (k.val : Int) < kN ((κ.val : Nat) : Int) → zSA (-4 - 3 * ((κ.val : Nat) : Int)) ((k.val : Nat) : Int) = kDf ((κ.val : Nat) : Int) ((k.val : Nat) : Int) ∧ zSA (-2 - 3 * ((κ.val : Nat) : Int)) ((k.val : Nat) : Int) = kLo ((κ.val : Nat) : Int) ((k.val : Nat) : Int) ∧ zSA (-3 - 3 * ((κ.val : Nat) : Int)) ((k.val : Nat) : Int) = kHi ((κ.val : Nat) : Int) ((k.val : Nat) : Int) ∧ kIt ((κ.val : Nat) : Int) (zand (zLA (-31 - ((κ.val : Nat) : Int)) ((k.val : Nat) : Int)) 255) = ((k.val : Nat) : Int) := by decide +kernel
theorem kd_t {κ k : Int} (hκ : κ = 0 ∨ κ = 1 ∨ κ = 2) (h0 : 0 ≤ k) (h1 : k < kN κ) : zSA (-4 - 3 * κ) k = kDf κ k ∧ zSA (-2 - 3 * κ) k = kLo κ k ∧ zSA (-3 - 3 * κ) k = kHi κ k ∧ kIt κ (zand (zLA (-31 - κ) k) 255) = k := by
  have hn := kN_c κ
  have := kd_tab ⟨κ.toNat, by omega⟩ ⟨k.toNat, by omega⟩
  simp only at this
  have e1 : ((κ.toNat : Nat) : Int) = κ := by omega
  have e2 : ((k.toNat : Nat) : Int) = k := by omega
  rw [e1, e2] at this
  exact this h1
theorem it_miss {κ c : Int} (hκ : κ = 0 ∨ κ = 1 ∨ κ = 2) (h : ∀ k : Int, 0 ≤ k → k < kN κ → zand (zLA (-31 - κ) k) 255 ≠ c) : kIt κ c = -1 := by
  have e00 : zand (zLA (-31 - 0) 0) 255 = 116 := by decide
  have e01 : zand (zLA (-31 - 0) 1) 255 = 104 := by decide
  have e02 : zand (zLA (-31 - 0) 2) 255 = 103 := by decide
  have e10 : zand (zLA (-31 - 1) 0) 255 = 114 := by decide
  have e11 : zand (zLA (-31 - 1) 1) 255 = 99 := by decide
  have e12 : zand (zLA (-31 - 1) 2) 255 = 102 := by decide
  have e13 : zand (zLA (-31 - 1) 3) 255 = 117 := by decide
  have e14 : zand (zLA (-31 - 1) 4) 255 = 104 := by decide
  have e20 : zand (zLA (-31 - 2) 0) 255 = 119 := by decide
  have e21 : zand (zLA (-31 - 2) 1) 255 = 102 := by decide
  unfold kIt
  rcases hκ with rfl | rfl | rfl
  · have h0 := h 0 (by omega) (by decide)
    have h1 := h 1 (by omega) (by decide)
    have h2 := h 2 (by omega) (by decide)
    rw [e00] at h0
    rw [e01] at h1
    rw [e02] at h2
    rw [if_pos rfl, if_neg (fun q => h0 q.symm), if_neg (fun q => h1 q.symm), if_neg (fun q => h2 q.symm)]
  · have h0 := h 0 (by omega) (by decide)
    have h1 := h 1 (by omega) (by decide)
    have h2 := h 2 (by omega) (by decide)
    have h3 := h 3 (by omega) (by decide)
    have h4 := h 4 (by omega) (by decide)
    rw [e10] at h0
    rw [e11] at h1
    rw [e12] at h2
    rw [e13] at h3
    rw [e14] at h4
    rw [if_neg (by decide), if_pos rfl, if_neg (fun q => h0 q.symm), if_neg (fun q => h1 q.symm), if_neg (fun q => h2 q.symm), if_neg (fun q => h3 q.symm), if_neg (fun q => h4 q.symm)]
  · have h0 := h 0 (by omega) (by decide)
    have h1 := h 1 (by omega) (by decide)
    rw [e20] at h0
    rw [e21] at h1
    rw [if_neg (by decide), if_neg (by decide), if_neg (fun q => h0 q.symm), if_neg (fun q => h1 q.symm)]
theorem zki_g {o : Int} (h : zki o) : zKT 1 o = -11 - zKd o ∧ zKT 2 o = -2 - 3 * zKd o ∧ zKT 3 o = -3 - 3 * zKd o ∧ zKT 4 o = -4 - 3 * zKd o ∧ zCL (zKT 1 o) = 26 ∧ zCL (zKT 2 o) = 25 ∧ zCL (zKT 3 o) = 25 ∧ zLN (zKT 2 o) = kN (zKd o) ∧ zLN (zKT 3 o) = kN (zKd o) ∧ zLN (zKT 1 o - 20) = kN (zKd o) ∧ zCL (zKT 1 o - 20) = 28 := by
  rcases h with rfl | rfl | rfl | rfl | rfl | rfl <;> decide
section
variable {l : Launch} {G : zG} {d : Nat} {v : zH} {Q : Int → zH → Prop}
theorem c_Str_coder {a : Int} (ha : zCL a = 26) (K : Q 0 v) : zC l G 1 (d + 1) h_Str_coder [(2, a)] v 115 Q := by
  refine zC_at ok_Str_coder ck_Str_coder rfl rfl (sg_Str_coder_0 ?_)
  refine ⟨fun q1 => ⟨⟨by first | decide | omega, by first | decide | omega⟩, ?_⟩, fun q2 => ⟨by first | decide | omega, ⟨by first | decide | omega, by first | decide | omega⟩, ?_⟩⟩
  try (any_goals (exfalso; first | omega | exact absurd trivial (by assumption)))
  exact K
theorem c_Str_isLatin1 {a : Int} (ha : zCL a = 26) (K : Q 1 v) : zC l G 1 (d + 1) h_Str_isLatin1 [(2, a)] v 115 Q := by
  refine zC_at ok_Str_isLatin1 ck_Str_isLatin1 rfl rfl (sg_Str_isLatin1_0 ?_)
  refine ⟨fun q1 => ⟨by first | decide | omega, ?_⟩, fun q2 => ⟨by first | decide | omega, ⟨fun q3 => ⟨by first | decide | omega, ?_⟩, fun q4 => ⟨by first | decide | omega, ?_⟩⟩⟩⟩
  try (any_goals (exfalso; first | omega | exact absurd trivial (by assumption)))
  exact K
theorem zshr0 {x : Int} (h : 0 ≤ x ∧ x ≤ 100) : zshr x 0 = x := by
  obtain ⟨n, rfl⟩ : ∃ n : Nat, x = n := ⟨x.toNat, by omega⟩
  have := zshr_n (a := n) (k := 0) (by omega) (by omega)
  rw [Nat.shiftRight_zero] at this
  exact this
theorem c_Str_length {a : Int} (ha : zCL a = 26) (h2 : zCL (a - 20) = 28) (hl : 0 ≤ zLN (a - 20) ∧ zLN (a - 20) ≤ 100) (K : Q (zLN (a - 20)) v) : zC l G 1 (d + 2) h_Str_length [(2, a)] v 115 Q := by
  sorry
end
