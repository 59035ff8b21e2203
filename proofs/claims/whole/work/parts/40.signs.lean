/-! THE CLASS: readers: signs, numbers -/
section
variable {l : Launch} {G : zG} {d : Nat} {v : zH} {Q : Int → zH → Prop}
theorem WR_loop {X : zTp} {QX : Nat → zH → Prop} (ht : tOk X) : ∀ (m : Nat) {v : zH} {p : Int}, TP v X → v 3 1 = p → 0 ≤ p → p ≤ X.2 → X.2 - p ≤ m → (∀ v' : zH, (∀ b : Int, b ≠ 3 → v' b = v b) → v' 3 1 = pS X p → Q (pC X p) v') →
    zJ l G 1 (d + 1) h_WR_sign k_WR_sign 115 Q QX 0 [(2, 3)] [] v 115
  | m, v, p, hX, hp, h0, h1, hm, K => by
    have hz : zLN (1 + 1) = 160 := by decide
    have e31 : (3 + (-2) : Int) = 1 := rfl
    have hn := ht.1
    have pe : ¬ p < X.2 → pS X p = p ∧ pC X p = -1 := fun q => by
      have e := pS_st (X := X) (p := p) (fun r => q r.1)
      refine ⟨e, ?_⟩
      unfold pC
      rw [e, if_neg q]
    have pn : p < X.2 → X.1 p ≠ 32 → pS X p = p ∧ pC X p = X.1 p := fun q q2 => by
      have e := pS_st (X := X) (p := p) (fun r => q2 r.2)
      refine ⟨e, ?_⟩
      unfold pC
      rw [e, if_pos q]
    refine zgo ck_WR_sign 300 0 _ _ _ _ rfl (sg_WR_sign_0 ?_)
    simp only [e31, hp, hX.1]
    by_cases hlt : p < X.2
    · simp only [hX.2 p h0 hlt]
      by_cases hb : X.1 p = 32
      · match m, hm with
        | 0, hm => omega
        | m + 1, hm =>
          refine ⟨by first | decide | omega, by first | decide | omega, by first | decide | omega, ⟨fun q1 => ⟨by first | decide | omega, by first | decide | omega, by first | decide | omega, ⟨fun q2 => ?_, fun q3 => ⟨by first | decide | omega, by first | decide | omega, by first | decide | omega, by first | decide | omega, ⟨by first | decide | omega, by first | decide | omega⟩, ?_⟩⟩⟩, fun q4 => ⟨by first | decide | omega, by first | decide | omega, by first | decide | omega, by first | decide | omega, ⟨by first | decide | omega, by first | decide | omega⟩, ⟨fun q5 => ⟨by first | decide | omega, by first | decide | omega, by first | decide | omega, ⟨fun q6 => ?_, fun q7 => ⟨by first | decide | omega, by first | decide | omega, by first | decide | omega, by first | decide | omega, ⟨by first | decide | omega, by first | decide | omega⟩, ?_⟩⟩⟩, fun q8 => ⟨by first | decide | omega, ⟨by first | decide | omega, by first | decide | omega⟩, by first | decide | omega, ?_⟩⟩⟩⟩⟩
          try (any_goals (exfalso; first | omega | exact absurd trivial (by assumption)))
          have eg := pS_go (X := X) ⟨hlt, hb⟩
          have ec : pC X p = pC X (p + 1) := by unfold pC; rw [eg]
          refine WR_loop ht m (v := zupd v 3 1 (p + 1)) (p := p + 1) (TP_fr (fun a q => zup_a (by omega)) hX) (zup_e rfl rfl) (by omega) (by omega) (by omega) (fun v' f1 f2 => ?_)
          rw [← ec]
          exact K v' (fun b q => (f1 b q).trans (zup_a q)) (by rw [f2, eg])
      · obtain ⟨e1, e2⟩ := pn hlt hb
        rw [e1, e2] at K
        refine ⟨by first | decide | omega, by first | decide | omega, by first | decide | omega, ⟨fun q1 => ⟨by first | decide | omega, by first | decide | omega, by first | decide | omega, ⟨fun q2 => ?_, fun q3 => ⟨by first | decide | omega, by first | decide | omega, by first | decide | omega, by first | decide | omega, ⟨by first | decide | omega, by first | decide | omega⟩, ?_⟩⟩⟩, fun q4 => ⟨by first | decide | omega, by first | decide | omega, by first | decide | omega, by first | decide | omega, ⟨by first | decide | omega, by first | decide | omega⟩, ⟨fun q5 => ⟨by first | decide | omega, by first | decide | omega, by first | decide | omega, ⟨fun q6 => ?_, fun q7 => ⟨by first | decide | omega, by first | decide | omega, by first | decide | omega, by first | decide | omega, ⟨by first | decide | omega, by first | decide | omega⟩, ?_⟩⟩⟩, fun q8 => ⟨by first | decide | omega, ⟨by first | decide | omega, by first | decide | omega⟩, by first | decide | omega, ?_⟩⟩⟩⟩⟩
        try (any_goals (exfalso; first | omega | exact absurd trivial (by assumption)))
        exact K v (fun _ _ => rfl) hp
    · obtain ⟨e1, e2⟩ := pe hlt
      rw [e1, e2] at K
      refine ⟨by first | decide | omega, by first | decide | omega, by first | decide | omega, ⟨fun q1 => ⟨by first | decide | omega, by first | decide | omega, by first | decide | omega, ⟨fun q2 => ?_, fun q3 => ⟨by first | decide | omega, by first | decide | omega, by first | decide | omega, by first | decide | omega, ⟨by first | decide | omega, by first | decide | omega⟩, ?_⟩⟩⟩, fun q4 => ⟨by first | decide | omega, by first | decide | omega, by first | decide | omega, by first | decide | omega, ⟨by first | decide | omega, by first | decide | omega⟩, ⟨fun q5 => ⟨by first | decide | omega, by first | decide | omega, by first | decide | omega, ⟨fun q6 => ?_, fun q7 => ⟨by first | decide | omega, by first | decide | omega, by first | decide | omega, by first | decide | omega, ⟨by first | decide | omega, by first | decide | omega⟩, ?_⟩⟩⟩, fun q8 => ⟨by first | decide | omega, ⟨by first | decide | omega, by first | decide | omega⟩, by first | decide | omega, ?_⟩⟩⟩⟩⟩
      try (any_goals (exfalso; first | omega | exact absurd trivial (by assumption)))
      exact K v (fun _ _ => rfl) hp
theorem c_WR_sign {X : zTp} {p : Int} (ht : tOk X) (hX : TP v X) (hp : v 3 1 = p) (h0 : 0 ≤ p) (h1 : p ≤ X.2) (K : ∀ v' : zH, (∀ b : Int, b ≠ 3 → v' b = v b) → v' 3 1 = pS X p → Q (pC X p) v') : zC l G 1 (d + 1) h_WR_sign [(2, 3)] v 115 Q :=
  zC_in ok_WR_sign rfl (Nat.le_of_ble_eq_true rfl) (WR_loop ht (X.2 - p).toNat hX hp h0 h1 (by omega) K)
theorem c_WR_takes {X : zTp} {p c : Int} (ht : tOk X) (hX : TP v X) (hp : v 3 1 = p) (h0 : 0 ≤ p) (h1 : p ≤ X.2) (hc : 0 ≤ c) (K1 : pC X p = c → ∀ v' : zH, (∀ b : Int, b ≠ 3 → v' b = v b) → v' 3 1 = pS X p + 1 → Q 1 v') (K0 : pC X p ≠ c → ∀ v' : zH, (∀ b : Int, b ≠ 3 → v' b = v b) → v' 3 1 = pS X p → Q 0 v') : zC l G 1 (d + 2) h_WR_takes [(2, 3), (0, c)] v 115 Q := by
  have hb := pS_b (X := X) p
  have hn := ht.1
  refine zC_at ok_WR_takes ck_WR_takes rfl rfl (sg_WR_takes_0 ?_)
  refine ⟨by first | decide | omega, ?_⟩
  try (any_goals (exfalso; first | omega | exact absurd trivial (by assumption)))
  refine c_WR_sign ht hX hp h0 h1 (fun v1 f1 f2 => ?_)
  show _
  simp only [f2]
  refine ⟨fun q1 => ⟨by first | decide | omega, ⟨by first | decide | omega, by first | decide | omega⟩, by first | decide | omega, by first | decide | omega, ?_⟩, fun q2 => ⟨by first | decide | omega, ?_⟩⟩
  try (any_goals (exfalso; first | omega | exact absurd trivial (by assumption)))
  · exact K1 q1 _ (fun b q => (zup_a q).trans (f1 b q)) (zup_e rfl rfl)
  · exact K0 q2 v1 f1 f2
theorem WR_d7 {X : zTp} {M : Nat} {v0 : zH} {R : zPx Int} {QX : Nat → zH → Prop} (ht : tOk X) (hM : M ≤ 4) (Ke : ∀ (e : Int) (v' : zH), R = .error e → (∀ b : Int, b ≠ 3 → v' b = v0 b) → v' 3 1 = e → Q (-1) v') (Ko : ∀ (q x : Int) (v' : zH), R = .ok (q, x) → (∀ b : Int, b ≠ 3 → v' b = v0 b) → v' 3 1 = q → Q x v') :
    ∀ (m i : Nat) {v : zH} {q x : Int}, i + m = M → TP v X → (∀ b : Int, b ≠ 3 → v b = v0 b) → v 3 1 = q → 0 ≤ q → q ≤ X.2 → 0 ≤ x → x < 10 ^ i → (i ≠ 0 → R = pDg X m q x) → (i = 0 → R = if pDi X q = true then pDg X m q x else .error q) →
    zJ l G 1 (d + 1) h_WR_digits k_WR_digits 115 Q QX 7 [(2, 3), (0, (M : Int)), (0, x), (0, (i : Int))] [] v 115
  | m, i, v, q, x, hi, hX, hF, hq, h0, h1, hx0, hx1, hR, hR0 => by
    have hz : zLN (1 + 1) = 160 := by decide
    have e31 : (3 + (-2) : Int) = 1 := rfl
    have hn := ht.1
    have hp : (10 : Int) ^ i ≤ 10000 := by
      have : i = 0 ∨ i = 1 ∨ i = 2 ∨ i = 3 ∨ i = 4 := by omega
      rcases this with rfl | rfl | rfl | rfl | rfl <;> decide
    refine zgo ck_WR_digits 300 7 _ _ _ _ rfl (sg_WR_digits_7 ?_)
    simp only [e31, hq, hX.1]
    -- no digit
    have stop : pDi X q = false → (¬ (i : Int) = 0 → Q x v) ∧ ((i : Int) = 0 → Q (-1) v) := by
      intro hd
      refine ⟨fun hi0 => ?_, fun hi0 => ?_⟩
      · refine Ko q x v ?_ hF hq
        rw [hR (by omega)]
        cases m with
        | zero => show (if pDi X q = true then (Except.error q : zPx Int) else .ok (q, x)) = _; rw [hd]; rfl
        | succ m => show (if pDi X q = true then pDg X m (q + 1) (x * 10 + X.1 q - 48) else .ok (q, x)) = _; rw [hd]; rfl
      · refine Ke q v ?_ hF hq
        rw [hR0 (by omega), hd]
        rfl
    by_cases hlt : q < X.2
    · have hb := ht.2 q h0 hlt
      simp only [hX.2 q h0 hlt]
      by_cases hd : pDi X q = true
      · have hd' := pDi_iff.mp hd
        match m, hi, hR, hR0 with
        | 0, hi, hR, hR0 =>
          have er : R = .error q := by
            by_cases h : i = 0
            · rw [hR0 h, if_pos hd]
              show (if pDi X q = true then (Except.error q : zPx Int) else .ok (q, x)) = _
              rw [if_pos hd]
            · rw [hR h]
              show (if pDi X q = true then (Except.error q : zPx Int) else .ok (q, x)) = _
              rw [if_pos hd]
          refine ⟨by first | decide | omega, by first | decide | omega, by first | decide | omega, ⟨fun q1 => ⟨fun q2 => ?_, fun q3 => ?_⟩, fun q4 => ⟨by first | decide | omega, by first | decide | omega, by first | decide | omega, by first | decide | omega, ⟨by first | decide | omega, by first | decide | omega⟩, ⟨fun q5 => ⟨fun q6 => ?_, fun q7 => ?_⟩, fun q8 => ⟨by first | decide | omega, by first | decide | omega, by first | decide | omega, by first | decide | omega, ⟨by first | decide | omega, by first | decide | omega⟩, ⟨fun q9 => ⟨fun q10 => ?_, fun q11 => ?_⟩, fun q12 => ⟨fun q13 => ⟨⟨by first | decide | omega, by first | decide | omega⟩, by first | decide | omega, by first | decide | omega, by first | decide | omega, by first | decide | omega, ⟨by first | decide | omega, by first | decide | omega⟩, ⟨by first | decide | omega, by first | decide | omega⟩, ⟨by first | decide | omega, by first | decide | omega⟩, ⟨by first | decide | omega, by first | decide | omega⟩, by first | decide | omega, ⟨by first | decide | omega, by first | decide | omega⟩, by first | decide | omega, ?_⟩, fun q14 => ?_⟩⟩⟩⟩⟩⟩⟩
          try (any_goals (exfalso; first | omega | exact absurd trivial (by assumption)))
          exact Ke q v er hF hq
        | m + 1, hi, hR, hR0 =>
          have er : R = pDg X m (q + 1) (x * 10 + X.1 q - 48) := by
            by_cases h : i = 0
            · rw [hR0 h, if_pos hd]
              show (if pDi X q = true then pDg X m (q + 1) (x * 10 + X.1 q - 48) else .ok (q, x)) = _
              rw [if_pos hd]
            · rw [hR h]
              show (if pDi X q = true then pDg X m (q + 1) (x * 10 + X.1 q - 48) else .ok (q, x)) = _
              rw [if_pos hd]
          have hpw : (10 : Int) ^ (i + 1) = 10 ^ i * 10 := Int.pow_succ _ _
          refine ⟨by first | decide | omega, by first | decide | omega, by first | decide | omega, ⟨fun q1 => ⟨fun q2 => ?_, fun q3 => ?_⟩, fun q4 => ⟨by first | decide | omega, by first | decide | omega, by first | decide | omega, by first | decide | omega, ⟨by first | decide | omega, by first | decide | omega⟩, ⟨fun q5 => ⟨fun q6 => ?_, fun q7 => ?_⟩, fun q8 => ⟨by first | decide | omega, by first | decide | omega, by first | decide | omega, by first | decide | omega, ⟨by first | decide | omega, by first | decide | omega⟩, ⟨fun q9 => ⟨fun q10 => ?_, fun q11 => ?_⟩, fun q12 => ⟨fun q13 => ⟨⟨by first | decide | omega, by first | decide | omega⟩, by first | decide | omega, by first | decide | omega, by first | decide | omega, by first | decide | omega, ⟨by first | decide | omega, by first | decide | omega⟩, ⟨by first | decide | omega, by first | decide | omega⟩, ⟨by first | decide | omega, by first | decide | omega⟩, ⟨by first | decide | omega, by first | decide | omega⟩, by first | decide | omega, ⟨by first | decide | omega, by first | decide | omega⟩, by first | decide | omega, ?_⟩, fun q14 => ?_⟩⟩⟩⟩⟩⟩⟩
          try (any_goals (exfalso; first | omega | exact absurd trivial (by assumption)))
          exact WR_d7 ht hM Ke Ko m (i + 1) (by omega) (TP_fr (fun a r => zup_a (by omega)) hX) (fun b r => (zup_a r).trans (hF b r)) (zup_e rfl rfl) (by omega) (by omega) (by omega) (by omega) (fun _ => er) (fun r => absurd r (by omega))
      · have hd : pDi X q = false := by simpa using hd
        have hs := stop hd
        have hnd : ¬ (48 ≤ X.1 q ∧ X.1 q ≤ 57) := fun r => by
          have := pDi_iff.mpr ⟨hlt, r.1, r.2⟩
          rw [hd] at this
          cases this
        refine ⟨by first | decide | omega, by first | decide | omega, by first | decide | omega, ⟨fun q1 => ⟨fun q2 => ?_, fun q3 => ?_⟩, fun q4 => ⟨by first | decide | omega, by first | decide | omega, by first | decide | omega, by first | decide | omega, ⟨by first | decide | omega, by first | decide | omega⟩, ⟨fun q5 => ⟨fun q6 => ?_, fun q7 => ?_⟩, fun q8 => ⟨by first | decide | omega, by first | decide | omega, by first | decide | omega, by first | decide | omega, ⟨by first | decide | omega, by first | decide | omega⟩, ⟨fun q9 => ⟨fun q10 => ?_, fun q11 => ?_⟩, fun q12 => ⟨fun q13 => ⟨⟨by first | decide | omega, by first | decide | omega⟩, by first | decide | omega, by first | decide | omega, by first | decide | omega, by first | decide | omega, ⟨by first | decide | omega, by first | decide | omega⟩, ⟨by first | decide | omega, by first | decide | omega⟩, ⟨by first | decide | omega, by first | decide | omega⟩, ⟨by first | decide | omega, by first | decide | omega⟩, by first | decide | omega, ⟨by first | decide | omega, by first | decide | omega⟩, by first | decide | omega, ?_⟩, fun q14 => ?_⟩⟩⟩⟩⟩⟩⟩
        try (any_goals (exfalso; first | omega | exact absurd trivial (by assumption)))
        all_goals first | exact hs.1 (by assumption) | exact hs.2 (by assumption)
    · have hd : pDi X q = false := by
        rw [← Bool.not_eq_true, pDi_iff]
        exact fun r => hlt r.1
      have hs := stop hd
      refine ⟨by decide, by decide, by decide, fun _ => hs, fun r => absurd r (by omega)⟩
theorem c_WR_digits {X : zTp} {M : Nat} {p : Int} (ht : tOk X) (hM : 1 ≤ M ∧ M ≤ 4) (hX : TP v X) (hp : v 3 1 = p) (h0 : 0 ≤ p) (h1 : p ≤ X.2) (Ke : ∀ (e : Int) (v' : zH), pNm X M p = .error e → (∀ b : Int, b ≠ 3 → v' b = v b) → v' 3 1 = e → Q (-1) v') (Ko : ∀ (q x : Int) (v' : zH), pNm X M p = .ok (q, x) → (∀ b : Int, b ≠ 3 → v' b = v b) → v' 3 1 = q → Q x v') : zC l G 1 (d + 2) h_WR_digits [(2, 3), (0, (M : Int))] v 115 Q := by
  have hb := pS_b (X := X) p
  refine zC_at ok_WR_digits ck_WR_digits rfl rfl (sg_WR_digits_0 ?_)
  refine ⟨by first | decide | omega, ?_⟩
  refine c_WR_sign ht hX hp h0 h1 (fun v1 f1 f2 => ?_)
  exact WR_d7 (R := pNm X M p) ht hM.2 (fun e v' r1 r2 r3 => Ke e v' r1 r2 r3) (fun q x v' r1 r2 r3 => Ko q x v' r1 r2 r3) M 0 (by omega) (TP_fr (fun a r => f1 a (by omega)) hX) f1 f2 (by omega) (by omega) (by omega) (by decide) (fun r => absurd rfl r) (fun _ => rfl)
theorem LR_loop {X : zTp} {QX : Nat → zH → Prop} (ht : tOk X) : ∀ (m : Nat) {v : zH} {p : Int}, TP v X → v 4 1 = p → 0 ≤ p → p ≤ X.2 → X.2 - p ≤ m → (∀ v' : zH, (∀ b : Int, b ≠ 4 → v' b = v b) → v' 4 1 = pS X p → Q (pC X p) v') →
    zJ l G 1 (d + 1) h_LR_sign k_LR_sign 115 Q QX 0 [(2, 4)] [] v 115
  | m, v, p, hX, hp, h0, h1, hm, K => by
    have hz : zLN (1 + 1) = 160 := by decide
    have e31 : (4 + (-3) : Int) = 1 := rfl
    have hn := ht.1
    have pe : ¬ p < X.2 → pS X p = p ∧ pC X p = -1 := fun q => by
      have e := pS_st (X := X) (p := p) (fun r => q r.1)
      refine ⟨e, ?_⟩
      unfold pC
      rw [e, if_neg q]
    have pn : p < X.2 → X.1 p ≠ 32 → pS X p = p ∧ pC X p = X.1 p := fun q q2 => by
      have e := pS_st (X := X) (p := p) (fun r => q2 r.2)
      refine ⟨e, ?_⟩
      unfold pC
      rw [e, if_pos q]
    refine zgo ck_LR_sign 300 0 _ _ _ _ rfl (sg_LR_sign_0 ?_)
    simp only [e31, hp, hX.1]
    by_cases hlt : p < X.2
    · simp only [hX.2 p h0 hlt]
      by_cases hb : X.1 p = 32
      · match m, hm with
        | 0, hm => omega
        | m + 1, hm =>
          refine ⟨by first | decide | omega, by first | decide | omega, by first | decide | omega, ⟨fun q1 => ⟨by first | decide | omega, by first | decide | omega, by first | decide | omega, ⟨fun q2 => ?_, fun q3 => ⟨by first | decide | omega, by first | decide | omega, by first | decide | omega, by first | decide | omega, ⟨by first | decide | omega, by first | decide | omega⟩, ?_⟩⟩⟩, fun q4 => ⟨by first | decide | omega, by first | decide | omega, by first | decide | omega, by first | decide | omega, ⟨by first | decide | omega, by first | decide | omega⟩, ⟨fun q5 => ⟨by first | decide | omega, by first | decide | omega, by first | decide | omega, ⟨fun q6 => ?_, fun q7 => ⟨by first | decide | omega, by first | decide | omega, by first | decide | omega, by first | decide | omega, ⟨by first | decide | omega, by first | decide | omega⟩, ?_⟩⟩⟩, fun q8 => ⟨by first | decide | omega, ⟨by first | decide | omega, by first | decide | omega⟩, by first | decide | omega, ?_⟩⟩⟩⟩⟩
          try (any_goals (exfalso; first | omega | exact absurd trivial (by assumption)))
          have eg := pS_go (X := X) ⟨hlt, hb⟩
          have ec : pC X p = pC X (p + 1) := by unfold pC; rw [eg]
          refine LR_loop ht m (v := zupd v 4 1 (p + 1)) (p := p + 1) (TP_fr (fun a q => zup_a (by omega)) hX) (zup_e rfl rfl) (by omega) (by omega) (by omega) (fun v' f1 f2 => ?_)
          rw [← ec]
          exact K v' (fun b q => (f1 b q).trans (zup_a q)) (by rw [f2, eg])
      · obtain ⟨e1, e2⟩ := pn hlt hb
        rw [e1, e2] at K
        refine ⟨by first | decide | omega, by first | decide | omega, by first | decide | omega, ⟨fun q1 => ⟨by first | decide | omega, by first | decide | omega, by first | decide | omega, ⟨fun q2 => ?_, fun q3 => ⟨by first | decide | omega, by first | decide | omega, by first | decide | omega, by first | decide | omega, ⟨by first | decide | omega, by first | decide | omega⟩, ?_⟩⟩⟩, fun q4 => ⟨by first | decide | omega, by first | decide | omega, by first | decide | omega, by first | decide | omega, ⟨by first | decide | omega, by first | decide | omega⟩, ⟨fun q5 => ⟨by first | decide | omega, by first | decide | omega, by first | decide | omega, ⟨fun q6 => ?_, fun q7 => ⟨by first | decide | omega, by first | decide | omega, by first | decide | omega, by first | decide | omega, ⟨by first | decide | omega, by first | decide | omega⟩, ?_⟩⟩⟩, fun q8 => ⟨by first | decide | omega, ⟨by first | decide | omega, by first | decide | omega⟩, by first | decide | omega, ?_⟩⟩⟩⟩⟩
        try (any_goals (exfalso; first | omega | exact absurd trivial (by assumption)))
        exact K v (fun _ _ => rfl) hp
    · obtain ⟨e1, e2⟩ := pe hlt
      rw [e1, e2] at K
      refine ⟨by first | decide | omega, by first | decide | omega, by first | decide | omega, ⟨fun q1 => ⟨by first | decide | omega, by first | decide | omega, by first | decide | omega, ⟨fun q2 => ?_, fun q3 => ⟨by first | decide | omega, by first | decide | omega, by first | decide | omega, by first | decide | omega, ⟨by first | decide | omega, by first | decide | omega⟩, ?_⟩⟩⟩, fun q4 => ⟨by first | decide | omega, by first | decide | omega, by first | decide | omega, by first | decide | omega, ⟨by first | decide | omega, by first | decide | omega⟩, ⟨fun q5 => ⟨by first | decide | omega, by first | decide | omega, by first | decide | omega, ⟨fun q6 => ?_, fun q7 => ⟨by first | decide | omega, by first | decide | omega, by first | decide | omega, by first | decide | omega, ⟨by first | decide | omega, by first | decide | omega⟩, ?_⟩⟩⟩, fun q8 => ⟨by first | decide | omega, ⟨by first | decide | omega, by first | decide | omega⟩, by first | decide | omega, ?_⟩⟩⟩⟩⟩
      try (any_goals (exfalso; first | omega | exact absurd trivial (by assumption)))
      exact K v (fun _ _ => rfl) hp
theorem c_LR_sign {X : zTp} {p : Int} (ht : tOk X) (hX : TP v X) (hp : v 4 1 = p) (h0 : 0 ≤ p) (h1 : p ≤ X.2) (K : ∀ v' : zH, (∀ b : Int, b ≠ 4 → v' b = v b) → v' 4 1 = pS X p → Q (pC X p) v') : zC l G 1 (d + 1) h_LR_sign [(2, 4)] v 115 Q :=
  zC_in ok_LR_sign rfl (Nat.le_of_ble_eq_true rfl) (LR_loop ht (X.2 - p).toNat hX hp h0 h1 (by omega) K)
theorem c_LR_takes {X : zTp} {p c : Int} (ht : tOk X) (hX : TP v X) (hp : v 4 1 = p) (h0 : 0 ≤ p) (h1 : p ≤ X.2) (hc : 0 ≤ c) (K1 : pC X p = c → ∀ v' : zH, (∀ b : Int, b ≠ 4 → v' b = v b) → v' 4 1 = pS X p + 1 → Q 1 v') (K0 : pC X p ≠ c → ∀ v' : zH, (∀ b : Int, b ≠ 4 → v' b = v b) → v' 4 1 = pS X p → Q 0 v') : zC l G 1 (d + 2) h_LR_takes [(2, 4), (0, c)] v 115 Q := by
  have hb := pS_b (X := X) p
  have hn := ht.1
  refine zC_at ok_LR_takes ck_LR_takes rfl rfl (sg_LR_takes_0 ?_)
  refine ⟨by first | decide | omega, ?_⟩
  try (any_goals (exfalso; first | omega | exact absurd trivial (by assumption)))
  refine c_LR_sign ht hX hp h0 h1 (fun v1 f1 f2 => ?_)
  show _
  simp only [f2]
  refine ⟨fun q1 => ⟨by first | decide | omega, ⟨by first | decide | omega, by first | decide | omega⟩, by first | decide | omega, by first | decide | omega, ?_⟩, fun q2 => ⟨by first | decide | omega, ?_⟩⟩
  try (any_goals (exfalso; first | omega | exact absurd trivial (by assumption)))
  · exact K1 q1 _ (fun b q => (zup_a q).trans (f1 b q)) (zup_e rfl rfl)
  · exact K0 q2 v1 f1 f2
theorem LR_d7 {X : zTp} {M : Nat} {v0 : zH} {R : zPx Int} {QX : Nat → zH → Prop} (ht : tOk X) (hM : M ≤ 4) (Ke : ∀ (e : Int) (v' : zH), R = .error e → (∀ b : Int, b ≠ 4 → v' b = v0 b) → v' 4 1 = e → Q (-1) v') (Ko : ∀ (q x : Int) (v' : zH), R = .ok (q, x) → (∀ b : Int, b ≠ 4 → v' b = v0 b) → v' 4 1 = q → Q x v') :
    ∀ (m i : Nat) {v : zH} {q x : Int}, i + m = M → TP v X → (∀ b : Int, b ≠ 4 → v b = v0 b) → v 4 1 = q → 0 ≤ q → q ≤ X.2 → 0 ≤ x → x < 10 ^ i → (i ≠ 0 → R = pDg X m q x) → (i = 0 → R = if pDi X q = true then pDg X m q x else .error q) →
    zJ l G 1 (d + 1) h_LR_digits k_LR_digits 115 Q QX 7 [(2, 4), (0, (M : Int)), (0, x), (0, (i : Int))] [] v 115
  | m, i, v, q, x, hi, hX, hF, hq, h0, h1, hx0, hx1, hR, hR0 => by
    have hz : zLN (1 + 1) = 160 := by decide
    have e31 : (4 + (-3) : Int) = 1 := rfl
    have hn := ht.1
    have hp : (10 : Int) ^ i ≤ 10000 := by
      have : i = 0 ∨ i = 1 ∨ i = 2 ∨ i = 3 ∨ i = 4 := by omega
      rcases this with rfl | rfl | rfl | rfl | rfl <;> decide
    refine zgo ck_LR_digits 300 7 _ _ _ _ rfl (sg_LR_digits_7 ?_)
    simp only [e31, hq, hX.1]
    -- no digit
    have stop : pDi X q = false → (¬ (i : Int) = 0 → Q x v) ∧ ((i : Int) = 0 → Q (-1) v) := by
      intro hd
      refine ⟨fun hi0 => ?_, fun hi0 => ?_⟩
      · refine Ko q x v ?_ hF hq
        rw [hR (by omega)]
        cases m with
        | zero => show (if pDi X q = true then (Except.error q : zPx Int) else .ok (q, x)) = _; rw [hd]; rfl
        | succ m => show (if pDi X q = true then pDg X m (q + 1) (x * 10 + X.1 q - 48) else .ok (q, x)) = _; rw [hd]; rfl
      · refine Ke q v ?_ hF hq
        rw [hR0 (by omega), hd]
        rfl
    by_cases hlt : q < X.2
    · have hb := ht.2 q h0 hlt
      simp only [hX.2 q h0 hlt]
      by_cases hd : pDi X q = true
      · have hd' := pDi_iff.mp hd
        match m, hi, hR, hR0 with
        | 0, hi, hR, hR0 =>
          have er : R = .error q := by
            by_cases h : i = 0
            · rw [hR0 h, if_pos hd]
              show (if pDi X q = true then (Except.error q : zPx Int) else .ok (q, x)) = _
              rw [if_pos hd]
            · rw [hR h]
              show (if pDi X q = true then (Except.error q : zPx Int) else .ok (q, x)) = _
              rw [if_pos hd]
          refine ⟨by first | decide | omega, by first | decide | omega, by first | decide | omega, ⟨fun q1 => ⟨fun q2 => ?_, fun q3 => ?_⟩, fun q4 => ⟨by first | decide | omega, by first | decide | omega, by first | decide | omega, by first | decide | omega, ⟨by first | decide | omega, by first | decide | omega⟩, ⟨fun q5 => ⟨fun q6 => ?_, fun q7 => ?_⟩, fun q8 => ⟨by first | decide | omega, by first | decide | omega, by first | decide | omega, by first | decide | omega, ⟨by first | decide | omega, by first | decide | omega⟩, ⟨fun q9 => ⟨fun q10 => ?_, fun q11 => ?_⟩, fun q12 => ⟨fun q13 => ⟨⟨by first | decide | omega, by first | decide | omega⟩, by first | decide | omega, by first | decide | omega, by first | decide | omega, by first | decide | omega, ⟨by first | decide | omega, by first | decide | omega⟩, ⟨by first | decide | omega, by first | decide | omega⟩, ⟨by first | decide | omega, by first | decide | omega⟩, ⟨by first | decide | omega, by first | decide | omega⟩, by first | decide | omega, ⟨by first | decide | omega, by first | decide | omega⟩, by first | decide | omega, ?_⟩, fun q14 => ?_⟩⟩⟩⟩⟩⟩⟩
          try (any_goals (exfalso; first | omega | exact absurd trivial (by assumption)))
          exact Ke q v er hF hq
        | m + 1, hi, hR, hR0 =>
          have er : R = pDg X m (q + 1) (x * 10 + X.1 q - 48) := by
            by_cases h : i = 0
            · rw [hR0 h, if_pos hd]
              show (if pDi X q = true then pDg X m (q + 1) (x * 10 + X.1 q - 48) else .ok (q, x)) = _
              rw [if_pos hd]
            · rw [hR h]
              show (if pDi X q = true then pDg X m (q + 1) (x * 10 + X.1 q - 48) else .ok (q, x)) = _
              rw [if_pos hd]
          have hpw : (10 : Int) ^ (i + 1) = 10 ^ i * 10 := Int.pow_succ _ _
          refine ⟨by first | decide | omega, by first | decide | omega, by first | decide | omega, ⟨fun q1 => ⟨fun q2 => ?_, fun q3 => ?_⟩, fun q4 => ⟨by first | decide | omega, by first | decide | omega, by first | decide | omega, by first | decide | omega, ⟨by first | decide | omega, by first | decide | omega⟩, ⟨fun q5 => ⟨fun q6 => ?_, fun q7 => ?_⟩, fun q8 => ⟨by first | decide | omega, by first | decide | omega, by first | decide | omega, by first | decide | omega, ⟨by first | decide | omega, by first | decide | omega⟩, ⟨fun q9 => ⟨fun q10 => ?_, fun q11 => ?_⟩, fun q12 => ⟨fun q13 => ⟨⟨by first | decide | omega, by first | decide | omega⟩, by first | decide | omega, by first | decide | omega, by first | decide | omega, by first | decide | omega, ⟨by first | decide | omega, by first | decide | omega⟩, ⟨by first | decide | omega, by first | decide | omega⟩, ⟨by first | decide | omega, by first | decide | omega⟩, ⟨by first | decide | omega, by first | decide | omega⟩, by first | decide | omega, ⟨by first | decide | omega, by first | decide | omega⟩, by first | decide | omega, ?_⟩, fun q14 => ?_⟩⟩⟩⟩⟩⟩⟩
          try (any_goals (exfalso; first | omega | exact absurd trivial (by assumption)))
          exact LR_d7 ht hM Ke Ko m (i + 1) (by omega) (TP_fr (fun a r => zup_a (by omega)) hX) (fun b r => (zup_a r).trans (hF b r)) (zup_e rfl rfl) (by omega) (by omega) (by omega) (by omega) (fun _ => er) (fun r => absurd r (by omega))
      · have hd : pDi X q = false := by simpa using hd
        have hs := stop hd
        have hnd : ¬ (48 ≤ X.1 q ∧ X.1 q ≤ 57) := fun r => by
          have := pDi_iff.mpr ⟨hlt, r.1, r.2⟩
          rw [hd] at this
          cases this
        refine ⟨by first | decide | omega, by first | decide | omega, by first | decide | omega, ⟨fun q1 => ⟨fun q2 => ?_, fun q3 => ?_⟩, fun q4 => ⟨by first | decide | omega, by first | decide | omega, by first | decide | omega, by first | decide | omega, ⟨by first | decide | omega, by first | decide | omega⟩, ⟨fun q5 => ⟨fun q6 => ?_, fun q7 => ?_⟩, fun q8 => ⟨by first | decide | omega, by first | decide | omega, by first | decide | omega, by first | decide | omega, ⟨by first | decide | omega, by first | decide | omega⟩, ⟨fun q9 => ⟨fun q10 => ?_, fun q11 => ?_⟩, fun q12 => ⟨fun q13 => ⟨⟨by first | decide | omega, by first | decide | omega⟩, by first | decide | omega, by first | decide | omega, by first | decide | omega, by first | decide | omega, ⟨by first | decide | omega, by first | decide | omega⟩, ⟨by first | decide | omega, by first | decide | omega⟩, ⟨by first | decide | omega, by first | decide | omega⟩, ⟨by first | decide | omega, by first | decide | omega⟩, by first | decide | omega, ⟨by first | decide | omega, by first | decide | omega⟩, by first | decide | omega, ?_⟩, fun q14 => ?_⟩⟩⟩⟩⟩⟩⟩
        try (any_goals (exfalso; first | omega | exact absurd trivial (by assumption)))
        all_goals first | exact hs.1 (by assumption) | exact hs.2 (by assumption)
    · have hd : pDi X q = false := by
        rw [← Bool.not_eq_true, pDi_iff]
        exact fun r => hlt r.1
      have hs := stop hd
      refine ⟨by decide, by decide, by decide, fun _ => hs, fun r => absurd r (by omega)⟩
theorem c_LR_digits {X : zTp} {M : Nat} {p : Int} (ht : tOk X) (hM : 1 ≤ M ∧ M ≤ 4) (hX : TP v X) (hp : v 4 1 = p) (h0 : 0 ≤ p) (h1 : p ≤ X.2) (Ke : ∀ (e : Int) (v' : zH), pNm X M p = .error e → (∀ b : Int, b ≠ 4 → v' b = v b) → v' 4 1 = e → Q (-1) v') (Ko : ∀ (q x : Int) (v' : zH), pNm X M p = .ok (q, x) → (∀ b : Int, b ≠ 4 → v' b = v b) → v' 4 1 = q → Q x v') : zC l G 1 (d + 2) h_LR_digits [(2, 4), (0, (M : Int))] v 115 Q := by
  have hb := pS_b (X := X) p
  refine zC_at ok_LR_digits ck_LR_digits rfl rfl (sg_LR_digits_0 ?_)
  refine ⟨by first | decide | omega, ?_⟩
  refine c_LR_sign ht hX hp h0 h1 (fun v1 f1 f2 => ?_)
  exact LR_d7 (R := pNm X M p) ht hM.2 (fun e v' r1 r2 r3 => Ke e v' r1 r2 r3) (fun q x v' r1 r2 r3 => Ko q x v' r1 r2 r3) M 0 (by omega) (TP_fr (fun a r => f1 a (by omega)) hX) f1 f2 (by omega) (by omega) (by omega) (by decide) (fun r => absurd rfl r) (fun _ => rfl)
end
