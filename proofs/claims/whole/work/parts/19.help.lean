/-! HELPERS of the contracts -/
section
variable {l : Launch} {G : zG} {d : Nat} {v : zH} {Q : Int → zH → Prop}
theorem zC_at {l : Launch} {G : zG} {md d : Nat} {h : zHdr} {code : List zIns} {As : List zV} {v : zH} {n : Nat} {Q : Int → zH → Prop} (hok : zhok h = true) (hck : zck h code = true) (hpc : zpc code 0 = 0) (hl : Nat.ble (zflat As).length (hL h) = true) (k : zx l G md d h code n Q (fun _ _ => False) (zJ l G md d h code n Q (fun _ _ => False)) 300 (code.drop 0) (zargs As (hL h)) [] v n) : zC l G md d h As v n Q :=
  zC_in hok hpc (Nat.le_of_ble_eq_true hl) (zgo hck 300 0 _ _ _ _ (zargs_len (Nat.le_of_ble_eq_true hl)) k)
theorem zQe {r r' : Int} (k : Q r v) (e : r' = r) : Q r' v := e ▸ k
theorem zup_s {a j x : Int} : zupd v a j x a j = x := by simp [zupd]
theorem zup_e {a j x b k : Int} (h1 : b = a) (h2 : k = j) : zupd v a j x b k = x := by simp [zupd, h1, h2]
theorem zup_a {a j x b : Int} (h : b ≠ a) : zupd v a j x b = v b := by funext k; simp [zupd, h]
theorem zup_j {a j x k : Int} (h : k ≠ j) : zupd v a j x a k = v a k := by simp [zupd, h]
theorem zcp_a {a sp b dp n c : Int} (h : c ≠ b) : zcp v a sp b dp n c = v c := by funext k; simp [zcp, h]
theorem zcp_i {a sp b dp n j : Int} (h1 : dp ≤ j) (h2 : j < dp + n) : zcp v a sp b dp n b j = v a (sp + (j - dp)) := by simp [zcp, h1, h2]
theorem zcp_x {a sp b dp n j : Int} (h : j < dp ∨ dp + n ≤ j) : zcp v a sp b dp n b j = v b j := by
  unfold zcp
  rw [if_neg]
  omega
theorem ztd {a k : Int} (h : 0 ≤ a) : a.tdiv k = a / k := Int.tdiv_eq_ediv_of_nonneg h
theorem ztm {a k : Int} (h : 0 ≤ a) : a.tmod k = a % k := Int.tmod_eq_emod_of_nonneg h
def isc (R C c : Int) : Bool := decide (0 ≤ c) && decide (c / 10 < R) && decide (c % 10 < C)
def ixn (C c : Int) : Int := c / 10 * C + c % 10
theorem isc_iff {R C c : Int} : isc R C c = true ↔ 0 ≤ c ∧ c / 10 < R ∧ c % 10 < C := by
  simp [isc, Bool.and_eq_true, and_assoc]
theorem c_Wa_indexOf {w R C a : Int} (hw : zCL w = 8) (hR : v w 9 = R) (hC : v w 10 = C) (b1 : 0 ≤ R ∧ R ≤ 4) (b2 : 0 ≤ C ∧ C ≤ 6) (K : Q (if isc R C a then ixn C a else -1) v) : zC l G 1 (d + 1) h_Wa_indexOf [(2, w), (0, a)] v 115 Q := by
  refine zC_at ok_Wa_indexOf ck_Wa_indexOf rfl rfl (sg_Wa_indexOf_0 ?_)
  rw [hR, hC]
  refine ⟨fun h => zQe K ?_, fun h => ⟨hw, ?_⟩⟩
  · rw [if_neg]
    rw [isc_iff]
    omega
  · rw [ztd h, ztm h]
    refine ⟨fun h1 => zQe K ?_, fun h1 => ⟨hw, fun h2 => ⟨hw, ?_, ?_, zQe K ?_⟩, fun h2 => zQe K ?_⟩⟩
    · rw [if_neg]
      rw [isc_iff]
      omega
    · unfold zI
      have : 0 ≤ a / 10 := by omega
      have : a / 10 * C ≤ 4 * 6 := Int.mul_le_mul (by omega) (by omega) (by omega) (by omega)
      have : 0 ≤ a / 10 * C := Int.mul_nonneg (by omega) (by omega)
      omega
    · unfold zI
      have : 0 ≤ a / 10 := by omega
      have : a / 10 * C ≤ 4 * 6 := Int.mul_le_mul (by omega) (by omega) (by omega) (by omega)
      have : 0 ≤ a / 10 * C := Int.mul_nonneg (by omega) (by omega)
      omega
    · rw [if_pos]
      · rfl
      · rw [isc_iff]
        omega
    · rw [if_neg]
      rw [isc_iff]
      omega
theorem c2_Wa_indexOf {w R C a : Int} (hw : zCL w = 8) (hR : v w 9 = R) (hC : v w 10 = C) (b1 : 0 ≤ R ∧ R ≤ 4) (b2 : 0 ≤ C ∧ C ≤ 6) (K : Q (if isc R C a then ixn C a else -1) v) : zC l G 1 (d + 1) h_Wa_indexOf [(2, w), (0, a)] v 115 Q := by
  refine zC_at ok_Wa_indexOf ck_Wa_indexOf rfl rfl (sg_Wa_indexOf_0 ?_)
  have hb : 0 ≤ a → a / 10 < R → zI (a / 10 * C) ∧ zI (a / 10 * C + a % 10) := by
    intro h1 h2
    have : a / 10 * C ≤ 4 * 6 := Int.mul_le_mul (by omega) (by omega) (by omega) (by omega)
    have : 0 ≤ a / 10 * C := Int.mul_nonneg (by omega) (by omega)
    unfold zI
    omega
  grind [ztd, ztm, isc_iff, ixn]
theorem c2_Sk_rainsAt {s h rn : Int} (hs : zCL s = 5) (hr : v s 5 = rn) (h0 : 0 ≤ h) (K : Q (if zand (zshr rn (h % 24)) 1 = 1 then 1 else 0) v) : zC l G 1 (d + 1) h_Sk_rainsAt [(2, s), (0, h)] v 115 Q := by
  refine zC_at ok_Sk_rainsAt ck_Sk_rainsAt rfl rfl (sg_Sk_rainsAt_0 ?_)
  grind [ztm]
def zcc (o : Int) : Prop := zCL o = 0 ∧ (zCL (o + 1) = 20 ∧ zLN (o + 1) = 24) ∧ (zCL (o + 2) = 20 ∧ zLN (o + 2) = 24) ∧ (zCL (o + 3) = 20 ∧ zLN (o + 3) = 24) ∧ (zCL (o + 4) = 20 ∧ zLN (o + 4) = 3) ∧ (zCL (o + 5) = 20 ∧ zLN (o + 5) = 3) ∧ (zCL (o + 6) = 20 ∧ zLN (o + 6) = 24) ∧ (zCL (o + 7) = 20 ∧ zLN (o + 7) = 24) ∧ (zCL (o + 8) = 20 ∧ zLN (o + 8) = 24)
theorem zcc24 : zcc 24 := by unfold zcc; decide
theorem zcc33 : zcc 33 := by unfold zcc; decide
theorem c2_Co_burns {o k : Int} (ho : zcc o) (h0 : 0 ≤ v o 8) (hk : 0 ≤ k ∧ k < 3) (K : Q (if (if v (o + 4) k ≤ v (o + 5) k then v (o + 4) k ≤ v o 8 % 24 ∧ v o 8 % 24 < v (o + 5) k else v (o + 4) k ≤ v o 8 % 24 ∨ v o 8 % 24 < v (o + 5) k) then 1 else 0) v) : zC l G 1 (d + 1) h_Co_burns [(2, o), (0, k)] v 115 Q := by
  refine zC_at ok_Co_burns ck_Co_burns rfl rfl (sg_Co_burns_0 ?_)
  unfold zcc at ho
  grind [ztm]
end
