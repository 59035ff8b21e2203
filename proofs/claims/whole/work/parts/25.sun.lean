/-! THE CLASS: the sun on a cell; the pictures of wall, course -/
theorem zup_ak {v : zH} {a j x b k : Int} (h : b ≠ a) : zupd v a j x b k = v b k := by rw [zup_a h]
abbrev zwo (w : Int) : Prop := w = 51 ∨ w = 64
abbrev zco (o : Int) : Prop := o = 24 ∨ o = 33
theorem sun_ix {p t r c s t' r' c' s' : Int} (h1 : 0 ≤ r) (h2 : r < 4) (h3 : 0 ≤ c) (h4 : c < 6) (h5 : 0 ≤ s) (h6 : s < 4) (g1 : 0 ≤ r') (g2 : r' < 4) (g3 : 0 ≤ c') (g4 : c' < 6) (g5 : 0 ≤ s') (g6 : s' < 4) (e : p * 2304 + ((t * 24 + r * 6 + c) * 4 + s) = p * 2304 + ((t' * 24 + r' * 6 + c') * 4 + s')) : t = t' ∧ r = r' ∧ c = c' ∧ s = s' := by omega
theorem zwt_nd {P : zLw} {t r c dd dd' s : Int} (h : (-100) ∉ lFl P) : zwt P t r c dd s = zwt P t r c dd' s := by
  unfold zwt
  rw [sWo_nd P h]
section
variable {l : Launch} {G : zG} {d : Nat} {v : zH} {Q : Int → zH → Prop}
theorem su_106 {j : Int} {QX : Nat → zH → Prop} (hj : 0 ≤ j ∧ j < 9216) (K : Q (v 7 j) v) : zJ l G 1 (d + 1) h_Sk_sunOn k_Sk_sunOn 115 Q QX 106 [(2, 5), (3, 0), (3, 0), (3, 0), (3, 0), (3, 0), (3, 0), (3, 0), (3, 0), (0, j), (3, 0)] [] v 115 := by
  have hz : zLN (5 + 2) = 9216 := by decide
  refine zgo ck_Sk_sunOn 300 106 _ _ _ _ rfl (sg_Sk_sunOn_106 ?_)
  try simp (disch := omega) only [zup_e, zup_ak, zup_j]
  refine ⟨by first | decide | omega, by first | decide | omega, ⟨by first | decide | omega, by first | decide | omega⟩, ?_⟩
  exact K
theorem su_79 {S : zSk} {h r c s L p : Int} {QX : Nat → zH → Prop} (hk : Sok S) (hS : SK v S) (h0 : 0 ≤ h ∧ h ≤ 1000000) (hr : 0 ≤ r ∧ r < 4) (hc : 0 ≤ c ∧ c < 6) (hs : 0 ≤ s ∧ s < 4) (hH : 0 ≤ kH S) (hL : L = 9 + 3 * kH S) (hp : 0 ≤ p ∧ p < 4) (he : ∀ dd, zwt (sLaw S) (h % 24) r c dd s = zwt (sLaw S) (h % 24) r c (h / 24) s ∨ dd ≠ v 8 p)
    (K : ∀ v' : zH, (∀ a, fK a → v' a = v a) → SK v' S → Q (sSn S h r c s) v') (hv : v 7 (p * 2304 + (((h % 24) * 24 + r * 6 + c) * 4 + s)) = -1 ∨ v 7 (p * 2304 + (((h % 24) * 24 + r * 6 + c) * 4 + s)) = zwt (sLaw S) (h % 24) r c (v 8 p) s) : zJ l G 1 (d + 3) h_Sk_sunOn k_Sk_sunOn 115 Q QX 79 [(2, 5), (0, h), (0, r), (0, c), (0, s), (3, 0), (2, L), (3, 0), (3, 0), (0, p * 2304 + (((h % 24) * 24 + r * 6 + c) * 4 + s)), (3, 0)] [] v 115 := by
  obtain ⟨k1, k2, k3, k4⟩ := hk
  have hz : zLN (5 + 2) = 9216 := by decide
  have hkl : (kH S).toNat < (kA S).length := by omega
  have hget : (kA S)[(kH S).toNat]? = some (sLaw S) := by
    unfold sLaw
    rw [List.getD_eq_getElem?_getD, List.getElem?_eq_getElem hkl]
    rfl
  have hmem : sLaw S ∈ kA S := List.mem_of_getElem? hget
  have hlo : zlo L := by unfold zlo; omega
  obtain ⟨f1, f2, f3, f4, f5⟩ := zlo_f hlo
  have hsn : sSn S h r c s = zwt (sLaw S) (h % 24) r c (h / 24) s := by
    unfold sSn
    rw [if_neg (by omega)]
  have hd : zwt (sLaw S) (h % 24) r c (v 8 p) s = zwt (sLaw S) (h % 24) r c (h / 24) s := (he (v 8 p)).resolve_right (by simp)
  have hw : 0 ≤ zwt (sLaw S) (h % 24) r c (h / 24) s ∧ zwt (sLaw S) (h % 24) r c (h / 24) s ≤ 9 := by
    unfold zwt
    omega
  have hj : 0 ≤ p * 2304 + (((h % 24) * 24 + r * 6 + c) * 4 + s) ∧ p * 2304 + (((h % 24) * 24 + r * 6 + c) * 4 + s) < 9216 := by omega
  refine zgo ck_Sk_sunOn 300 79 _ _ _ _ rfl (sg_Sk_sunOn_79 ?_)
  refine ⟨by first | decide | omega, by first | decide | omega, ⟨by first | decide | omega, by first | decide | omega⟩, ⟨fun q1 => ?_, fun q2 => ⟨by first | decide | omega, ?_⟩⟩⟩
  try (any_goals (exfalso; omega))
  · refine su_106 hj ?_
    have e5 : v 7 (p * 2304 + (((h % 24) * 24 + r * 6 + c) * 4 + s)) = sSn S h r c s := by
      rw [hsn, ← hd]
      have q1 : ¬ v 7 (p * 2304 + (((h % 24) * 24 + r * 6 + c) * 4 + s)) = -1 := q1
      omega
    rw [e5]
    exact K v (fun _ _ => rfl) hS
  · have hLW : LW v L (lFl (sLaw S)) := by
      have := hS.2.2.2.2.1 _ _ hget
      have e : (9 + 3 * ((kH S).toNat : Int)) = L := by omega
      rw [e] at this
      exact this
    refine c_La_worth hlo h0 ⟨by omega, by omega⟩ ⟨by omega, by omega⟩ ⟨by omega, by omega⟩ (k2 _ hmem).1 (k2 _ hmem).2 hLW (fun v1 g1 => ?_)
    have hS1 : ∀ x : Int, x = zwt (sLaw S) (h % 24) r c (h / 24) s → SK (zupd v1 7 (p * 2304 + (((h % 24) * 24 + r * 6 + c) * 4 + s)) x) S := by
      intro x hx
      refine SK_fr ⟨k1, k2, k3, k4⟩ (fun a ha => ?_) ?_ hS
      · rw [zup_a (by omega)]
        exact g1 a (by omega)
      · intro _ p' a1 a2
        have e8 : v1 8 = v 8 := g1 8 (by omega)
        have e7 : v1 7 = v 7 := g1 7 (by omega)
        rw [zup_a (by omega), e8]
        rcases hS.2.2.2.2.2 hH p' a1 a2 with b | b
        · exact Or.inl b
        · refine Or.inr (fun t r' c' s' u1 u2 u3 u4 u5 u6 u7 u8 => ?_)
          by_cases q : p' * 2304 + ((t * 24 + r' * 6 + c') * 4 + s') = p * 2304 + (((h % 24) * 24 + r * 6 + c) * 4 + s)
          · have hpp : p' = p := by omega
            subst hpp
            obtain ⟨z1, z2, z3, z4⟩ := sun_ix u3 u4 u5 u6 u7 u8 hr.1 hr.2 hc.1 hc.2 hs.1 hs.2 q
            subst z2 z3 z4
            right
            rw [zup_e rfl q, hx, ← hd, z1]
          · rw [zup_j q, e7]
            exact b t r' c' s' u1 u2 u3 u4 u5 u6 u7 u8
    have hfr : ∀ x : Int, ∀ a, fK a → (zupd v1 7 (p * 2304 + (((h % 24) * 24 + r * 6 + c) * 4 + s)) x) a = v a := by
      intro x a ha
      unfold fK at ha
      rw [zup_a (by omega)]
      exact g1 a (by omega)
    have hx0 : zwt (sLaw S) (h % 24) r c (h / 24) s = max 0 (min 9 (sWo (sLe (h % 24) r c (h / 24) s) (sLaw S))) := rfl
    generalize sWo (sLe (h % 24) r c (h / 24) s) (sLaw S) = x at *
    refine ⟨by first | decide | omega, ⟨fun q1 => ⟨fun q2 => ⟨by first | decide | omega, ⟨by first | decide | omega, by first | decide | omega⟩, ?_⟩, fun q3 => ⟨by first | decide | omega, ⟨by first | decide | omega, by first | decide | omega⟩, ?_⟩⟩, fun q4 => ⟨by first | decide | omega, ⟨by first | decide | omega, by first | decide | omega⟩, ?_⟩⟩⟩
    try (any_goals (exfalso; omega))
    · refine su_106 hj ?_
      have e : x = zwt (sLaw S) (h % 24) r c (h / 24) s := by omega
      rw [zup_e (by omega) (by omega)]
      have := K _ (hfr x) (hS1 x e)
      rw [hsn, ← e] at this
      exact this
    · refine su_106 hj ?_
      have e : 9 = zwt (sLaw S) (h % 24) r c (h / 24) s := by omega
      rw [zup_e (by omega) (by omega)]
      have := K _ (hfr 9) (hS1 9 e)
      rw [hsn, ← e] at this
      exact this
    · refine su_106 hj ?_
      have e : 0 = zwt (sLaw S) (h % 24) r c (h / 24) s := by omega
      rw [zup_e (by omega) (by omega)]
      have := K _ (hfr 0) (hS1 0 e)
      rw [hsn, ← e] at this
      exact this
theorem su_37 {S : zSk} {h r c s L s0 : Int} {QX : Nat → zH → Prop} (hk : Sok S) (hS : SK v S) (h0 : 0 ≤ h ∧ h ≤ 1000000) (hr : 0 ≤ r ∧ r < 4) (hc : 0 ≤ c ∧ c < 6) (hs : 0 ≤ s ∧ s < 4) (hH : 0 ≤ kH S) (hL : L = 9 + 3 * kH S) (hs0 : 0 ≤ s0 ∧ s0 ≤ 1000000) (he : zwt (sLaw S) (h % 24) r c s0 s = zwt (sLaw S) (h % 24) r c (h / 24) s)
    (K : ∀ v' : zH, (∀ a, fK a → v' a = v a) → SK v' S → Q (sSn S h r c s) v') : zJ l G 1 (d + 3) h_Sk_sunOn k_Sk_sunOn 115 Q QX 37 [(2, 5), (0, h), (0, r), (0, c), (0, s), (0, h % 24), (2, L), (3, 0), (3, 0), (3, 0), (3, 0)] [(0, s0)] v 115 := by
  have hz : zLN (5 + 2) = 9216 := by decide
  have hz3 : zLN (5 + 3) = 4 := by decide
  refine zgo ck_Sk_sunOn 300 37 _ _ _ _ rfl (sg_Sk_sunOn_37 ?_)
  rw [ztm hs0.1]
  have hp : 0 ≤ s0 % 4 ∧ s0 % 4 < 4 := by omega
  generalize s0 % 4 = p at *
  have hij : p * 2304 + (h % 24 * 24 + r * 6 + c) * 4 + s = p * 2304 + ((h % 24 * 24 + r * 6 + c) * 4 + s) := by omega
  rw [hij]
  refine ⟨⟨by first | decide | omega, by first | decide | omega⟩, ⟨by first | decide | omega, by first | decide | omega⟩, ⟨by first | decide | omega, by first | decide | omega⟩, ⟨by first | decide | omega, by first | decide | omega⟩, ⟨by first | decide | omega, by first | decide | omega⟩, ⟨by first | decide | omega, by first | decide | omega⟩, ⟨by first | decide | omega, by first | decide | omega⟩, ⟨by first | decide | omega, by first | decide | omega⟩, ⟨fun q1 => ?_, fun q2 => ⟨by first | decide | omega, by first | decide | omega, ⟨fun q3 => ⟨by first | decide | omega, by first | decide | omega, ⟨by first | decide | omega, by first | decide | omega⟩, ⟨fun q4 => ?_, fun q5 => ⟨by first | decide | omega, ?_⟩⟩⟩, fun q6 => ?_⟩⟩⟩⟩
  try (any_goals (exfalso; omega))
  · have q3 : v 8 p = s0 := q4
    refine su_79 hk hS h0 hr hc hs hH hL hp (fun dd => ?_) K ?_
    · by_cases q : dd = v 8 p
      · left
        rw [q, q3]
        exact he
      · exact Or.inr q
    · rcases hS.2.2.2.2.2 hH p hp.1 hp.2 with b | b
      · omega
      · exact b (h % 24) r c s (by omega) (by omega) hr.1 hr.2 hc.1 hc.2 hs.1 hs.2
  · refine c_Sk_turnTo hp (fun v' g1 g2 g3 g4 => ?_)
    have e8 : v' 8 p = s0 := by rw [g2]; exact zup_e rfl rfl
    have hS' : SK v' S := by
      refine SK_fr hk (fun a ha => g1 a (by omega) (by omega)) ?_ hS
      intro _ p' a1 a2
      by_cases q : p' = p
      · subst q
        exact Or.inr (fun t r' c' s' u1 u2 u3 u4 u5 u6 u7 u8 => Or.inl (g3 _ (by omega) (by omega)))
      · have e : v' 8 p' = v 8 p' := by rw [g2]; exact zup_j q
        rw [e]
        rcases hS.2.2.2.2.2 hH p' a1 a2 with b | b
        · exact Or.inl b
        · refine Or.inr (fun t r' c' s' u1 u2 u3 u4 u5 u6 u7 u8 => ?_)
          rw [g4 _ (by omega)]
          exact b t r' c' s' u1 u2 u3 u4 u5 u6 u7 u8
    refine su_79 hk hS' h0 hr hc hs hH hL hp (fun dd => ?_) (fun v2 b1 b2 => K v2 (fun a ha => (b1 a ha).trans (g1 a (by unfold fK at ha; omega) (by unfold fK at ha; omega))) b2) ?_
    · by_cases q : dd = v' 8 p
      · left
        rw [q, e8]
        exact he
      · exact Or.inr q
    · exact Or.inl (g3 _ (by omega) (by omega))
theorem c_Sk_sunOn {S : zSk} {h r c s : Int} (hk : Sok S) (hS : SK v S) (h0 : 0 ≤ h ∧ h ≤ 1000000) (hr : 0 ≤ r ∧ r < 4) (hc : 0 ≤ c ∧ c < 6) (hs : 0 ≤ s ∧ s < 4)
    (K : ∀ v' : zH, (∀ a, fK a → v' a = v a) → SK v' S → Q (sSn S h r c s) v') : zC l G 1 (d + 3) h_Sk_sunOn [(2, 5), (0, h), (0, r), (0, c), (0, s)] v 115 Q := by
  have hS0 := hS
  obtain ⟨s1, s2, s3, s4, s5, s6⟩ := hS
  have hk0 := hk
  obtain ⟨k1, k2, k3, k4⟩ := hk
  have hz : zLN (5 + 1) = 5 := by decide
  have hK := K v (fun _ _ => rfl) hS0
  by_cases hH : kH S < 0
  · have e : sSn S h r c s = if 8 ≤ h % 24 ∧ h % 24 ≤ 15 then 5 else 0 := by
      unfold sSn
      rw [if_pos hH]
    rw [e] at hK
    refine zC_at ok_Sk_sunOn ck_Sk_sunOn rfl rfl (sg_Sk_sunOn_0 ?_)
    rw [ztm h0.1, s2]
    refine ⟨by first | decide | omega, ⟨fun q1 => ⟨fun q2 => ?_, fun q3 => ⟨fun q4 => ?_, fun q5 => ?_⟩⟩, fun q6 => ⟨by first | decide | omega, by first | decide | omega, by first | decide | omega, ⟨fun q7 => ⟨by first | decide | omega, by first | decide | omega, by first | decide | omega, ⟨by first | decide | omega, by first | decide | omega⟩, by first | decide | omega, by first | decide | omega, ⟨fun q8 => ?_, fun q9 => ?_⟩⟩, fun q10 => ⟨fun q11 => ?_, fun q12 => ⟨fun q13 => ?_, fun q14 => ?_⟩⟩⟩⟩⟩⟩
    try (any_goals (exfalso; omega))
    · rw [if_neg (by omega)] at hK
      exact hK
    · rw [if_neg (by omega)] at hK
      exact hK
    · rw [if_pos (by omega)] at hK
      exact hK
  · have e6 : v (5 + 1) (kH S) = 9 + 3 * kH S := s4 _ (by omega) (by omega)
    have hkl : (kH S).toNat < (kA S).length := by omega
    have hget : (kA S)[(kH S).toNat]? = some (sLaw S) := by
      unfold sLaw
      rw [List.getD_eq_getElem?_getD, List.getElem?_eq_getElem hkl]
      rfl
    have hL : LW v (9 + 3 * kH S) (lFl (sLaw S)) := by
      have := s5 _ _ hget
      have e : (9 + 3 * ((kH S).toNat : Int)) = 9 + 3 * kH S := by omega
      rw [e] at this
      exact this
    obtain ⟨f1, f2, f3, f4, f5⟩ := zlo_f (L := 9 + 3 * kH S) (by unfold zlo; omega)
    refine zC_at ok_Sk_sunOn ck_Sk_sunOn rfl rfl (sg_Sk_sunOn_0 ?_)
    rw [ztm h0.1, ztd h0.1, s2, e6, hL.2.2]
    refine ⟨by first | decide | omega, ⟨fun q1 => ⟨fun q2 => ?_, fun q3 => ⟨fun q4 => ?_, fun q5 => ?_⟩⟩, fun q6 => ⟨by first | decide | omega, by first | decide | omega, by first | decide | omega, ⟨fun q7 => ⟨by first | decide | omega, by first | decide | omega, by first | decide | omega, ⟨by first | decide | omega, by first | decide | omega⟩, by first | decide | omega, by first | decide | omega, ⟨fun q8 => ?_, fun q9 => ?_⟩⟩, fun q10 => ⟨fun q11 => ?_, fun q12 => ⟨fun q13 => ?_, fun q14 => ?_⟩⟩⟩⟩⟩⟩
    try (any_goals (exfalso; omega))
    · refine su_37 hk0 hS0 h0 hr hc hs (by omega) rfl ⟨by omega, by omega⟩ ?_ K
      refine zwt_nd (fun q => ?_)
      rw [if_pos q] at q8
      omega
    · exact su_37 hk0 hS0 h0 hr hc hs (by omega) rfl ⟨by omega, by omega⟩ rfl K
end
