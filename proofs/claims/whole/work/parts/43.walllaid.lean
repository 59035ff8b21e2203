/-! THE CLASS: a wall judged, laid; the course begun -/
section
variable {l : Launch} {G : zG} {d : Nat} {v : zH} {Q : Int → zH → Prop}
theorem st_54 {w : Int} {D : zDf} {QX : Nat → zH → Prop} (hw : zwo w) (hd : dOk D) (hD : DR v w D) (hR : 1 ≤ dR D) (K1 : (∀ o : Int, 0 ≤ o → o < dO D → dOvn D o = true) → Q 1 v) (K0 : ∀ o : Int, 0 ≤ o → o < dO D → ¬ dOvn D o = true → Q 0 v) :
    ∀ (m i : Nat), (i : Int) + m = dO D → (∀ o : Int, 0 ≤ o → o < i → dOvn D o = true) → zJ l G 1 (d + 2) h_Wa_stands k_Wa_stands 115 Q QX 54 [(2, w), (0, (i : Int)), (3, 0)] [] v 115
  | m, i, hi, ha => by
    obtain ⟨w0, w1, w3, w5, ⟨w7, w7'⟩, ⟨w8, w8'⟩, ⟨w9, w9'⟩, ⟨w10, w10'⟩, ⟨w11, w11'⟩, ⟨w12, w12'⟩⟩ := zwo_f hw
    obtain ⟨z1, z2, z3, z4, z5, z6⟩ := zwo_k hw
    obtain ⟨k1, k2, k3, k4, k5, k6⟩ := hD
    have hD : DR v w D := ⟨k1, k2, k3, k4, k5, k6⟩
    have d2 := hd.2.1
    have u : kN 1 = 5 := rfl
    have um : kMx 1 = 3 := rfl
    have dn := d2.1
    rw [um] at dn
    refine zgo ck_Wa_stands 300 54 _ _ _ _ rfl (sg_Wa_stands_54 ?_)
    simp only [k2.1]
    match m, hi with
    | 0, hi =>
      refine ⟨by first | decide | omega, by first | decide | omega, ⟨fun q1 => ⟨by first | decide | omega, ?_⟩, fun q2 => ⟨by first | decide | omega, by first | decide | omega, ?_⟩⟩⟩
      try (any_goals (exfalso; first | omega | exact absurd trivial (by assumption)))
      exact K1 (fun o h1 h2 => ha o h1 (by omega))
    | m + 1, hi =>
      refine ⟨by first | decide | omega, by first | decide | omega, ⟨fun q1 => ⟨by first | decide | omega, ?_⟩, fun q2 => ⟨by first | decide | omega, by first | decide | omega, ?_⟩⟩⟩
      try (any_goals (exfalso; first | omega | exact absurd trivial (by assumption)))
      have hov := dOvn_iff (D := D) (o := (i : Int))
      have e0 := k2.2 ((i : Int) * 5 + 0) (by omega) (by rw [u]; omega)
      have e1 := k2.2 ((i : Int) * 5 + 1) (by omega) (by rw [u]; omega)
      rw [show (i : Int) * 5 + 0 = 5 * i by omega] at e0
      rw [show (i : Int) * 5 + 1 = 5 * i + 1 by omega] at e1
      refine c_Ki_number z2 k2.1 (by rw [z5, um]; omega) ?_
      simp only [z5, u]
      rw [if_pos (by omega), show (i : Int) * 5 + 0 = 5 * i by omega, e0]
      simp only [k4]
      by_cases c1 : dV D (5 * i) < dR D
      rotate_left
      · refine ⟨by first | decide | omega, ⟨fun q1 => ⟨by first | decide | omega, ?_⟩, fun q2 => ⟨by first | decide | omega, by first | decide | omega, ?_⟩⟩⟩
        try (any_goals (exfalso; first | omega | exact absurd trivial (by assumption)))
        exact K0 i (by omega) (by omega) (fun q => c1 (hov.mp q).1)
      refine ⟨by first | decide | omega, ⟨fun q1 => ⟨by first | decide | omega, ?_⟩, fun q2 => ⟨by first | decide | omega, by first | decide | omega, ?_⟩⟩⟩
      try (any_goals (exfalso; first | omega | exact absurd trivial (by assumption)))
      refine c_Ki_number z2 k2.1 (by rw [z5, um]; omega) ?_
      simp only [z5, u]
      rw [if_pos (by omega), show (i : Int) * 5 + 1 = 5 * i + 1 by omega, e1]
      simp only [k5 0 (by omega) (by omega)]
      by_cases c2 : dV D (5 * i + 1) < dW D 0
      rotate_left
      · refine ⟨by first | decide | omega, by first | decide | omega, ⟨by first | decide | omega, by first | decide | omega⟩, ⟨fun q1 => ⟨⟨by first | decide | omega, by first | decide | omega⟩, ?_⟩, fun q2 => ⟨by first | decide | omega, ?_⟩⟩⟩
        try (any_goals (exfalso; first | omega | exact absurd trivial (by assumption)))
        exact K0 i (by omega) (by omega) (fun q => c2 (hov.mp q).2)
      refine ⟨by first | decide | omega, by first | decide | omega, ⟨by first | decide | omega, by first | decide | omega⟩, ⟨fun q1 => ⟨⟨by first | decide | omega, by first | decide | omega⟩, ?_⟩, fun q2 => ⟨by first | decide | omega, ?_⟩⟩⟩
      try (any_goals (exfalso; first | omega | exact absurd trivial (by assumption)))
      exact st_54 hw hd hD hR K1 K0 m (i + 1) (by omega) (fun o h1 h2 => by
        by_cases e : o = i
        · rw [e]; exact hov.mpr ⟨c1, c2⟩
        · exact ha o h1 (by omega))
theorem st_28 {w : Int} {D : zDf} {QX : Nat → zH → Prop} {r : Nat} (hw : zwo w) (hd : dOk D) (hD : DR v w D) (hr : (r : Int) < dR D) (hl : dW D r = dW D 0)
    (Kn : dRow D r = true → zJ l G 1 (d + 2) h_Wa_stands k_Wa_stands 115 Q QX 11 [(2, w), (0, (r : Int) + 1), (3, 0)] [] v 115) (K0 : ¬ dRow D r = true → Q 0 v) :
    ∀ (m c : Nat), (c : Int) + m = dW D r → (∀ x : Int, 0 ≤ x → x < c → dE D (6 * r + x) < dS D) → zJ l G 1 (d + 2) h_Wa_stands k_Wa_stands 115 Q QX 28 [(2, w), (0, (r : Int)), (0, (c : Int))] [] v 115
  | m, c, hi, ha => by
    obtain ⟨w0, w1, w3, w5, ⟨w7, w7'⟩, ⟨w8, w8'⟩, ⟨w9, w9'⟩, ⟨w10, w10'⟩, ⟨w11, w11'⟩, ⟨w12, w12'⟩⟩ := zwo_f hw
    obtain ⟨k1, k2, k3, k4, k5, k6⟩ := hD
    have hD : DR v w D := ⟨k1, k2, k3, k4, k5, k6⟩
    have d4 := hd.2.2.2.1
    have hb := (hd.2.2.2.2 r (by omega) hr).1
    have e8 := k5 r (by omega) hr
    have hrow := dRow_iff (D := D) (r := (r : Int))
    refine zgo ck_Wa_stands 300 28 _ _ _ _ rfl (sg_Wa_stands_28 ?_)
    simp only [e8, k1.1]
    match m, hi with
    | 0, hi =>
      refine ⟨by first | decide | omega, by first | decide | omega, ⟨by first | decide | omega, by first | decide | omega⟩, ⟨fun q1 => ⟨⟨by first | decide | omega, by first | decide | omega⟩, ?_⟩, fun q2 => ⟨by first | decide | omega, ⟨by first | decide | omega, by first | decide | omega⟩, ⟨by first | decide | omega, by first | decide | omega⟩, by first | decide | omega, ⟨by first | decide | omega, by first | decide | omega⟩, by first | decide | omega, by first | decide | omega, ⟨fun q3 => ⟨⟨by first | decide | omega, by first | decide | omega⟩, ?_⟩, fun q4 => ⟨by first | decide | omega, ?_⟩⟩⟩⟩⟩
      try (any_goals (exfalso; first | omega | exact absurd trivial (by assumption)))
      exact Kn (hrow.mpr ⟨hl, fun x h1 h2 => ha x h1 (by omega)⟩)
    | m + 1, hi =>
      have e7 := k6.1 r c (by omega) hr (by omega) (by omega)
      rw [show 6 * (r : Int) + c = r * 6 + c by omega] at e7
      simp only [e7]
      by_cases c1 : dE D (r * 6 + c) < dS D
      · refine ⟨by first | decide | omega, by first | decide | omega, ⟨by first | decide | omega, by first | decide | omega⟩, ⟨fun q1 => ⟨⟨by first | decide | omega, by first | decide | omega⟩, ?_⟩, fun q2 => ⟨by first | decide | omega, ⟨by first | decide | omega, by first | decide | omega⟩, ⟨by first | decide | omega, by first | decide | omega⟩, by first | decide | omega, ⟨by first | decide | omega, by first | decide | omega⟩, by first | decide | omega, by first | decide | omega, ⟨fun q3 => ⟨⟨by first | decide | omega, by first | decide | omega⟩, ?_⟩, fun q4 => ⟨by first | decide | omega, ?_⟩⟩⟩⟩⟩
        try (any_goals (exfalso; first | omega | exact absurd trivial (by assumption)))
        exact st_28 hw hd hD hr hl Kn K0 m (c + 1) (by omega) (fun x h1 h2 => by
          by_cases e : x = c
          · rw [e, show 6 * (r : Int) + c = r * 6 + c by omega]; exact c1
          · exact ha x h1 (by omega))
      · refine ⟨by first | decide | omega, by first | decide | omega, ⟨by first | decide | omega, by first | decide | omega⟩, ⟨fun q1 => ⟨⟨by first | decide | omega, by first | decide | omega⟩, ?_⟩, fun q2 => ⟨by first | decide | omega, ⟨by first | decide | omega, by first | decide | omega⟩, ⟨by first | decide | omega, by first | decide | omega⟩, by first | decide | omega, ⟨by first | decide | omega, by first | decide | omega⟩, by first | decide | omega, by first | decide | omega, ⟨fun q3 => ⟨⟨by first | decide | omega, by first | decide | omega⟩, ?_⟩, fun q4 => ⟨by first | decide | omega, ?_⟩⟩⟩⟩⟩
        try (any_goals (exfalso; first | omega | exact absurd trivial (by assumption)))
        exact K0 (fun q => c1 (by
          have := (hrow.mp q).2 c (by omega) (by omega)
          rw [show 6 * (r : Int) + c = r * 6 + c by omega] at this
          exact this))
theorem st_11 {w : Int} {D : zDf} {QX : Nat → zH → Prop} (hw : zwo w) (hd : dOk D) (hD : DR v w D) (hs : dS D ≠ 0) (hR : dR D ≠ 0) (K1 : dSt D = true → Q 1 v) (K0 : ¬ dSt D = true → Q 0 v) :
    ∀ (m i : Nat), (i : Int) + m = dR D → (∀ r : Int, 0 ≤ r → r < i → dRow D r = true) → zJ l G 1 (d + 2) h_Wa_stands k_Wa_stands 115 Q QX 11 [(2, w), (0, (i : Int)), (3, 0)] [] v 115
  | m, i, hi, ha => by
    obtain ⟨w0, w1, w3, w5, ⟨w7, w7'⟩, ⟨w8, w8'⟩, ⟨w9, w9'⟩, ⟨w10, w10'⟩, ⟨w11, w11'⟩, ⟨w12, w12'⟩⟩ := zwo_f hw
    obtain ⟨k1, k2, k3, k4, k5, k6⟩ := hD
    have hD : DR v w D := ⟨k1, k2, k3, k4, k5, k6⟩
    have d4 := hd.2.2.2.1
    have d2 := hd.2.1.1
    have hst := dSt_iff (D := D)
    refine zgo ck_Wa_stands 300 11 _ _ _ _ rfl (sg_Wa_stands_11 ?_)
    simp only [k4]
    match m, hi with
    | 0, hi =>
      refine ⟨by first | decide | omega, ⟨fun q1 => ?_, fun q2 => ⟨by first | decide | omega, by first | decide | omega, ⟨by first | decide | omega, by first | decide | omega⟩, by first | decide | omega, by first | decide | omega, ⟨by first | decide | omega, by first | decide | omega⟩, ⟨fun q3 => ?_, fun q4 => ⟨by first | decide | omega, ?_⟩⟩⟩⟩⟩
      try (any_goals (exfalso; first | omega | exact absurd trivial (by assumption)))
      exact st_54 hw hd hD (by omega) (fun h => K1 (hst.mpr ⟨hs, hR, fun r h1 h2 => ha r h1 (by omega), fun o h1 h2 => h o h1 (by omega)⟩)) (fun o h1 h2 h3 => K0 (fun q => h3 ((hst.mp q).2.2.2 o h1 (by omega)))) (dO D).toNat 0 (by omega) (fun o h1 h2 => by omega)
    | m + 1, hi =>
      have hrow := dRow_iff (D := D) (r := (i : Int))
      have hb := (hd.2.2.2.2 i (by omega) (by omega)).1
      simp only [k5 i (by omega) (by omega), k5 0 (by omega) (by omega)]
      by_cases c1 : dW D i = dW D 0
      · refine ⟨by first | decide | omega, ⟨fun q1 => ?_, fun q2 => ⟨by first | decide | omega, by first | decide | omega, ⟨by first | decide | omega, by first | decide | omega⟩, by first | decide | omega, by first | decide | omega, ⟨by first | decide | omega, by first | decide | omega⟩, ⟨fun q3 => ?_, fun q4 => ⟨by first | decide | omega, ?_⟩⟩⟩⟩⟩
        try (any_goals (exfalso; first | omega | exact absurd trivial (by assumption)))
        exact st_28 hw hd hD (by omega) c1 (fun h => st_11 hw hd hD hs hR K1 K0 m (i + 1) (by omega) (fun r h1 h2 => by
          by_cases e : r = i
          · rw [e]; exact h
          · exact ha r h1 (by omega))) (fun h => K0 (fun q => h ((hst.mp q).2.2.1 i (by omega) (by omega)))) (dW D i).toNat 0 (by omega) (fun x h1 h2 => by omega)
      · refine ⟨by first | decide | omega, ⟨fun q1 => ?_, fun q2 => ⟨by first | decide | omega, by first | decide | omega, ⟨by first | decide | omega, by first | decide | omega⟩, by first | decide | omega, by first | decide | omega, ⟨by first | decide | omega, by first | decide | omega⟩, ⟨fun q3 => ?_, fun q4 => ⟨by first | decide | omega, ?_⟩⟩⟩⟩⟩
        try (any_goals (exfalso; first | omega | exact absurd trivial (by assumption)))
        exact K0 (fun q => c1 (hrow.mp ((hst.mp q).2.2.1 i (by omega) (by omega))).1)
theorem c_Wa_stands {w : Int} {D : zDf} (hw : zwo w) (hd : dOk D) (hD : DR v w D) (K1 : dSt D = true → Q 1 v) (K0 : ¬ dSt D = true → Q 0 v) : zC l G 1 (d + 2) h_Wa_stands [(2, w)] v 115 Q := by
  obtain ⟨w0, w1, w3, w5, ⟨w7, w7'⟩, ⟨w8, w8'⟩, ⟨w9, w9'⟩, ⟨w10, w10'⟩, ⟨w11, w11'⟩, ⟨w12, w12'⟩⟩ := zwo_f hw
  have hD' := hD
  obtain ⟨k1, k2, k3, k4, k5, k6⟩ := hD
  have d4 := hd.2.2.2.1
  have hst := dSt_iff (D := D)
  refine zC_at ok_Wa_stands ck_Wa_stands rfl rfl (sg_Wa_stands_0 ?_)
  simp only [k4, k1.1]
  refine ⟨by first | decide | omega, by first | decide | omega, ⟨fun q1 => ⟨by first | decide | omega, ?_⟩, fun q2 => ⟨by first | decide | omega, ⟨fun q3 => ?_, fun q4 => ⟨by first | decide | omega, ?_⟩⟩⟩⟩⟩
  try (any_goals (exfalso; first | omega | exact absurd trivial (by assumption)))
  · exact K0 (fun q => (hst.mp q).1 (by assumption))
  · exact st_11 hw hd hD' (by assumption) (by assumption) K1 K0 (dR D).toNat 0 (by omega) (fun r h1 h2 => by omega)
  · exact K0 (fun q => (hst.mp q).2.1 (by assumption))
theorem fo_7 {X : zTp} {w : Int} {v0 : zH} {R : Except Int zDf} {QX : Nat → zH → Prop} (ht : tOk X) (hw : zwo w)
    (Ke : ∀ (e : Int) (v' : zH), R = .error e → Fw w v0 v' → Q e v') (Ko : ∀ (E : zDf) (v' : zH), R = .ok E → Fw w v0 v' → DR v' w E → Q (-1) v') :
    ∀ (f : Nat) {v : zH} {q i : Int} {D : zDf}, TP v X → Fw w v0 v → v 3 1 = q → 0 ≤ q → q ≤ X.2 → X.2 - q < f → 0 ≤ i → i ≤ q → DR v w D → dOk D → R = pWlF X f q D →
    zJ l G 1 (d + 8) h_WR_faultOf k_WR_faultOf 115 Q QX 7 [(2, 3), (2, w), (0, i)] [] v 115
  | 0, v, q, i, D, hX, hF, hq, h0, h1, hf, hi0, hi, hD, hd, hR => by omega
  | f + 1, v, q, i, D, hX, hF, hq, h0, h1, hf, hi0, hi, hD, hd, hR => by
    have hn1 := ht.1
    obtain ⟨w0, w1, w3, w5, ⟨w7, w7'⟩, ⟨w8, w8'⟩, ⟨w9, w9'⟩, ⟨w10, w10'⟩, ⟨w11, w11'⟩, ⟨w12, w12'⟩⟩ := zwo_f hw
    have hw5 : 51 ≤ w := by rcases hw with rfl | rfl <;> omega
    have e31 : (3 + (-2) : Int) = 1 := rfl
    have hgd := pWc_gd (X := X) h0 h1 hd
    unfold pWlF at hR
    refine zgo ck_WR_faultOf 300 7 _ _ _ _ rfl (sg_WR_faultOf_7 ?_)
    simp only [e31, hX.1]
    refine ⟨by first | decide | omega, by first | decide | omega, ⟨fun q1 => ⟨by first | decide | omega, ?_⟩, fun q2 => ⟨by first | decide | omega, ?_⟩⟩⟩
    try (any_goals (exfalso; first | omega | exact absurd trivial (by assumption)))
    refine c_WR_clause ht hw hX hD hd hq h0 h1 (fun e v1 n1 n2 n3 => ?_) (fun p1 E v1 n1 n2 n3 n4 => ?_)
    · rw [n1] at hR
      simp only [n3]
      refine ⟨fun q1 => ⟨by first | decide | omega, ?_⟩, fun q2 => ⟨by first | decide | omega, ?_⟩⟩
      try (any_goals (exfalso; first | omega | exact absurd trivial (by assumption)))
      exact Ke e v1 hR (Fw_tr hF n2)
    · obtain ⟨a1, a2, a3⟩ := hgd.2 p1 E n1
      have hb := pS_b (X := X) p1
      rw [n1] at hR
      simp only at hR
      have hX1 : TP v1 X := TP_fr (fun a r => n2 a (by omega) (by omega)) hX
      refine ⟨fun q1 => ⟨by first | decide | omega, ?_⟩, fun q2 => ⟨by first | decide | omega, ?_⟩⟩
      try (any_goals (exfalso; first | omega | exact absurd trivial (by assumption)))
      refine c_WR_takes ht hX1 n3 (by omega) a2 (by omega) (fun c v2 s1 s2 => ?_) (fun c v2 s1 s2 => ?_)
      · rw [if_pos c] at hR
        have hlt := pC_lt (X := X) (p := p1) (by omega)
        refine ⟨fun q1 => ⟨⟨by first | decide | omega, by first | decide | omega⟩, ?_⟩, fun q2 => ⟨by first | decide | omega, ?_⟩⟩
        try (any_goals (exfalso; first | omega | exact absurd trivial (by assumption)))
        exact fo_7 ht hw Ke Ko f (TP_fr (fun a r => s1 a (by omega)) hX1) (Fw_tr hF (Fw_tr n2 (fun b r1 r2 => s1 b r1))) s2 (by omega) (by omega) (by omega) (by omega) (by omega) (DR_fr (fun b r1 r2 => s1 b (by omega)) n4) a3 hR
      · rw [if_neg c] at hR
        refine ⟨fun q1 => ⟨⟨by first | decide | omega, by first | decide | omega⟩, ?_⟩, fun q2 => ⟨by first | decide | omega, ?_⟩⟩
        try (any_goals (exfalso; first | omega | exact absurd trivial (by assumption)))
        refine c_WR_sign ht (TP_fr (fun a r => s1 a (by omega)) hX1) s2 (by omega) (by omega) (fun v3 t1 t2 => ?_)
        rw [pS_i] at t2
        rw [pC_i]
        have hF3 : Fw w v0 v3 := Fw_tr hF (Fw_tr n2 (fun b r1 r2 => (t1 b r1).trans (s1 b r1)))
        have hD3 : DR v3 w E := DR_fr (fun b r1 r2 => (t1 b (by omega)).trans (s1 b (by omega))) n4
        simp only [t2]
        by_cases ce : pC X p1 = -1
        · refine ⟨fun q1 => ⟨by first | decide | omega, ?_⟩, fun q2 => ⟨by first | decide | omega, ?_⟩⟩
          try (any_goals (exfalso; first | omega | exact absurd trivial (by assumption)))
          refine c_Wa_stands hw a3 hD3 (fun hs => ?_) (fun hs => ?_)
          · rw [if_pos ⟨ce, hs⟩] at hR
            refine ⟨fun q1 => ⟨by first | decide | omega, ?_⟩, fun q2 => ?_⟩
            try (any_goals (exfalso; first | omega | exact absurd trivial (by assumption)))
            exact Ko E v3 hR hF3 hD3
          · rw [if_neg (fun r => hs r.2)] at hR
            simp only [t2]
            refine ⟨fun q1 => ⟨by first | decide | omega, ?_⟩, fun q2 => ?_⟩
            try (any_goals (exfalso; first | omega | exact absurd trivial (by assumption)))
            exact Ke _ v3 hR hF3
        · rw [if_neg (fun r => ce r.1)] at hR
          refine ⟨fun q1 => ⟨by first | decide | omega, ?_⟩, fun q2 => ⟨by first | decide | omega, ?_⟩⟩
          try (any_goals (exfalso; first | omega | exact absurd trivial (by assumption)))
          exact Ke _ v3 hR hF3
theorem c_WR_faultOf {X : zTp} {w : Int} (ht : tOk X) (hw : zwo w) (hX : TP v X) (Ke : ∀ (e : Int) (v' : zH), pWl X = .error e → Fw w v v' → Q e v') (Ko : ∀ (E : zDf) (v' : zH), pWl X = .ok E → Fw w v v' → DR v' w E → Q (-1) v') : zC l G 1 (d + 8) h_WR_faultOf [(2, 3), (2, w)] v 115 Q := by
  have hn1 := ht.1
  obtain ⟨w0, w1, w3, w5, ⟨w7, w7'⟩, ⟨w8, w8'⟩, ⟨w9, w9'⟩, ⟨w10, w10'⟩, ⟨w11, w11'⟩, ⟨w12, w12'⟩⟩ := zwo_f hw
  have hw5 : 51 ≤ w := by rcases hw with rfl | rfl <;> omega
  refine zC_at ok_WR_faultOf ck_WR_faultOf rfl rfl (sg_WR_faultOf_0 ?_)
  refine ⟨by first | decide | omega, by first | decide | omega, ?_⟩
  refine zC_at ok_Wa_clear ck_Wa_clear rfl rfl (sg_Wa_clear_0 ?_)
  refine ⟨by first | decide | omega, by first | decide | omega, by first | decide | omega, by first | decide | omega, by first | decide | omega, by first | decide | omega, by first | decide | omega, by first | decide | omega, by first | decide | omega, ?_⟩
  refine fo_7 ht hw Ke Ko (X.2.toNat + 1) (q := 0) (D := d0) (TP_fr (fun a r => ?_) hX) (fun b r1 r2 => ?_) ?_ (by omega) (by omega) (by omega) (by omega) (by omega) ⟨⟨?_, fun j h1 h2 => by rw [show dS d0 = 0 from rfl, Int.mul_zero] at h2; omega⟩, ⟨?_, fun j h1 h2 => by rw [show dO d0 = 0 from rfl, Int.mul_zero] at h2; omega⟩, ⟨?_, fun j h1 h2 => by rw [show dZ d0 = 0 from rfl, Int.mul_zero] at h2; omega⟩, ?_, fun r h1 h2 => by rw [show dR d0 = 0 from rfl] at h2; omega, fun r c h1 h2 => by rw [show dR d0 = 0 from rfl] at h2; omega, fun c h1 h2 => by omega⟩ dOk_0 rfl
  · rw [zup_a (by omega), zup_a (by omega), zup_a (by omega), zup_a (by omega), zup_a (by omega), zup_a (by omega), zup_a (by omega)]
  · rw [zup_a (by omega), zup_a (by omega), zup_a (by omega), zup_a (by omega), zup_a (by omega), zup_a (by omega), zup_a (by omega)]
  · rw [zup_a (by omega), zup_a (by omega), zup_a (by omega), zup_a (by omega), zup_a (by omega), zup_a (by omega)]
    exact zup_s
  · rw [zup_a (by omega), zup_a (by omega), zup_a (by omega), zup_a (by omega), zup_a (by omega)]
    exact zup_s
  · rw [zup_a (by omega), zup_a (by omega), zup_a (by omega), zup_a (by omega)]
    exact zup_s
  · rw [zup_a (by omega), zup_a (by omega), zup_a (by omega)]
    exact zup_s
  · rw [zup_j (by omega), zup_j (by omega)]
    exact zup_s
-- laying
theorem ly_67 {w R C r c a x : Int} {QX : Nat → zH → Prop} (hw : zwo w) (h9 : v w 9 = R) (h10 : v w 10 = C) (hR : 0 ≤ R ∧ R ≤ 4) (hC : 0 ≤ C ∧ C ≤ 6) (hr : 0 ≤ r ∧ r < R) (hc : 0 ≤ c ∧ c < C) (ha : 0 ≤ a ∧ a < 24)
    (K : zJ l G 1 (d + 1) h_Wa_lay k_Wa_lay 115 Q QX 21 [(2, w), (0, r), (0, c + 1), (3, 0)] [] (zupd (zupd (zupd (zupd v (w + 12) (a * 4) x) (w + 12) (a * 4 + 1) (if r < R - 1 then a + C else -1)) (w + 12) (a * 4 + 2) (if 0 < c then a - 1 else -1)) (w + 12) (a * 4 + 3) (if c < C - 1 then a + 1 else -1)) 115) :
    zJ l G 1 (d + 1) h_Wa_lay k_Wa_lay 115 Q QX 67 [(2, w), (0, r), (0, c), (0, a)] [(0, x), (0, a * 4), (2, w + 12)] v 115 := by
  obtain ⟨w0, w1, w3, w5, ⟨w7, w7'⟩, ⟨w8, w8'⟩, ⟨w9, w9'⟩, ⟨w10, w10'⟩, ⟨w11, w11'⟩, ⟨w12, w12'⟩⟩ := zwo_f hw
  -- the last side
  have J4 : ∀ {y : Int} {u : zH}, zJ l G 1 (d + 1) h_Wa_lay k_Wa_lay 115 Q QX 21 [(2, w), (0, r), (0, c + 1), (3, 0)] [] (zupd u (w + 12) (a * 4 + 3) y) 115 → zJ l G 1 (d + 1) h_Wa_lay k_Wa_lay 115 Q QX 121 [(2, w), (0, r), (0, c), (3, 0)] [(0, y), (0, a * 4 + 3), (2, w + 12)] u 115 := by
    intro y u K
    refine zgo ck_Wa_lay 300 121 _ _ _ _ rfl (sg_Wa_lay_121 ?_)
    refine ⟨by first | decide | omega, ⟨by first | decide | omega, by first | decide | omega⟩, ⟨by first | decide | omega, by first | decide | omega⟩, ?_⟩
    exact K
  have J3 : ∀ {y : Int} {u : zH}, u w 10 = C → zJ l G 1 (d + 1) h_Wa_lay k_Wa_lay 115 Q QX 21 [(2, w), (0, r), (0, c + 1), (3, 0)] [] (zupd (zupd u (w + 12) (a * 4 + 2) y) (w + 12) (a * 4 + 3) (if c < C - 1 then a + 1 else -1)) 115 → zJ l G 1 (d + 1) h_Wa_lay k_Wa_lay 115 Q QX 102 [(2, w), (0, r), (0, c), (0, a)] [(0, y), (0, a * 4 + 2), (2, w + 12)] u 115 := by
    intro y u hu K
    refine zgo ck_Wa_lay 300 102 _ _ _ _ rfl (sg_Wa_lay_102 ?_)
    simp (disch := omega) only [zup_ak, hu]
    by_cases q : c < C - 1
    · rw [if_pos q] at K
      refine ⟨by first | decide | omega, ⟨by first | decide | omega, by first | decide | omega⟩, by first | decide | omega, ⟨by first | decide | omega, by first | decide | omega⟩, ⟨by first | decide | omega, by first | decide | omega⟩, by first | decide | omega, ⟨by first | decide | omega, by first | decide | omega⟩, ⟨fun q1 => ?_, fun q2 => ⟨⟨by first | decide | omega, by first | decide | omega⟩, ?_⟩⟩⟩
      try (any_goals (exfalso; first | omega | exact absurd trivial (by assumption)))
      exact J4 K
    · rw [if_neg q] at K
      refine ⟨by first | decide | omega, ⟨by first | decide | omega, by first | decide | omega⟩, by first | decide | omega, ⟨by first | decide | omega, by first | decide | omega⟩, ⟨by first | decide | omega, by first | decide | omega⟩, by first | decide | omega, ⟨by first | decide | omega, by first | decide | omega⟩, ⟨fun q1 => ?_, fun q2 => ⟨⟨by first | decide | omega, by first | decide | omega⟩, ?_⟩⟩⟩
      try (any_goals (exfalso; first | omega | exact absurd trivial (by assumption)))
      exact J4 K
  have J2 : ∀ {y : Int} {u : zH}, u w 10 = C → zJ l G 1 (d + 1) h_Wa_lay k_Wa_lay 115 Q QX 21 [(2, w), (0, r), (0, c + 1), (3, 0)] [] (zupd (zupd (zupd u (w + 12) (a * 4 + 1) y) (w + 12) (a * 4 + 2) (if 0 < c then a - 1 else -1)) (w + 12) (a * 4 + 3) (if c < C - 1 then a + 1 else -1)) 115 → zJ l G 1 (d + 1) h_Wa_lay k_Wa_lay 115 Q QX 87 [(2, w), (0, r), (0, c), (0, a)] [(0, y), (0, a * 4 + 1), (2, w + 12)] u 115 := by
    intro y u hu K
    refine zgo ck_Wa_lay 300 87 _ _ _ _ rfl (sg_Wa_lay_87 ?_)
    by_cases q : 0 < c
    · rw [if_pos q] at K
      refine ⟨by first | decide | omega, ⟨by first | decide | omega, by first | decide | omega⟩, by first | decide | omega, ⟨by first | decide | omega, by first | decide | omega⟩, ⟨by first | decide | omega, by first | decide | omega⟩, ⟨fun q1 => ?_, fun q2 => ⟨⟨by first | decide | omega, by first | decide | omega⟩, ?_⟩⟩⟩
      try (any_goals (exfalso; first | omega | exact absurd trivial (by assumption)))
      exact J3 (by rw [zup_a (by omega)]; exact hu) K
    · rw [if_neg q] at K
      refine ⟨by first | decide | omega, ⟨by first | decide | omega, by first | decide | omega⟩, by first | decide | omega, ⟨by first | decide | omega, by first | decide | omega⟩, ⟨by first | decide | omega, by first | decide | omega⟩, ⟨fun q1 => ?_, fun q2 => ⟨⟨by first | decide | omega, by first | decide | omega⟩, ?_⟩⟩⟩
      try (any_goals (exfalso; first | omega | exact absurd trivial (by assumption)))
      exact J3 (by rw [zup_a (by omega)]; exact hu) K
  refine zgo ck_Wa_lay 300 67 _ _ _ _ rfl (sg_Wa_lay_67 ?_)
  simp (disch := omega) only [zup_ak, h9, h10]
  by_cases q : r < R - 1
  · rw [if_pos q] at K
    refine ⟨by first | decide | omega, ⟨by first | decide | omega, by first | decide | omega⟩, by first | decide | omega, ⟨by first | decide | omega, by first | decide | omega⟩, ⟨by first | decide | omega, by first | decide | omega⟩, by first | decide | omega, ⟨by first | decide | omega, by first | decide | omega⟩, ⟨fun q1 => ?_, fun q2 => ⟨by first | decide | omega, ⟨by first | decide | omega, by first | decide | omega⟩, ?_⟩⟩⟩
    try (any_goals (exfalso; first | omega | exact absurd trivial (by assumption)))
    exact J2 (by rw [zup_a (by omega)]; exact h10) K
  · rw [if_neg q] at K
    refine ⟨by first | decide | omega, ⟨by first | decide | omega, by first | decide | omega⟩, by first | decide | omega, ⟨by first | decide | omega, by first | decide | omega⟩, ⟨by first | decide | omega, by first | decide | omega⟩, by first | decide | omega, ⟨by first | decide | omega, by first | decide | omega⟩, ⟨fun q1 => ?_, fun q2 => ⟨by first | decide | omega, ⟨by first | decide | omega, by first | decide | omega⟩, ?_⟩⟩⟩
    try (any_goals (exfalso; first | omega | exact absurd trivial (by assumption)))
    exact J2 (by rw [zup_a (by omega)]; exact h10) K
def LY (v : zH) (w : Int) (W : zWl) (n : Int) : Prop := ∀ a : Int, 0 ≤ a → a < n → v (w + 9) a = a / wC W ∧ v (w + 10) a = a % wC W ∧ v (w + 11) a = wG W a ∧ ∀ i : Int, 0 ≤ i → i < 4 → v (w + 12) (a * 4 + i) = sd (wR W) (wC W) a i
def Fl (w : Int) (v v' : zH) : Prop := ∀ b : Int, b ≠ w + 9 → b ≠ w + 10 → b ≠ w + 11 → b ≠ w + 12 → v' b = v b
theorem dm_C {C r c : Int} (hC : 1 ≤ C ∧ C ≤ 6) (hc : 0 ≤ c ∧ c < C) : (r * C + c) / C = r ∧ (r * C + c) % C = c := by
  have : C = 1 ∨ C = 2 ∨ C = 3 ∨ C = 4 ∨ C = 5 ∨ C = 6 := by omega
  rcases this with rfl | rfl | rfl | rfl | rfl | rfl <;> omega
theorem ly_21 {w : Int} {D : zDf} {v0 : zH} {QX : Nat → zH → Prop} {r : Nat} (hw : zwo w) (hd : dOk D) (hC : 1 ≤ dW D 0 ∧ dW D 0 ≤ 6) (h9 : v0 w 9 = dR D) (h10 : v0 w 10 = dW D 0) (hr : (r : Int) < dR D) (h7 : ∀ c : Int, 0 ≤ c → c < dW D 0 → v0 (w + 7) (6 * r + c) = dE D (6 * r + c))
    (K : ∀ v' : zH, Fl w v0 v' → LY v' w (dWl D) ((r + 1) * dW D 0) → zJ l G 1 (d + 1) h_Wa_lay k_Wa_lay 115 Q QX 15 [(2, w), (0, (r : Int) + 1), (3, 0), (3, 0)] [] v' 115) :
    ∀ (m c : Nat) {v : zH}, (c : Int) + m = dW D 0 → Fl w v0 v → LY v w (dWl D) (r * dW D 0 + c) → zJ l G 1 (d + 1) h_Wa_lay k_Wa_lay 115 Q QX 21 [(2, w), (0, (r : Int)), (0, (c : Int)), (3, 0)] [] v 115
  | m, c, v, hi, hF, hL => by
    obtain ⟨w0, w1, w3, w5, ⟨w7, w7'⟩, ⟨w8, w8'⟩, ⟨w9, w9'⟩, ⟨w10, w10'⟩, ⟨w11, w11'⟩, ⟨w12, w12'⟩⟩ := zwo_f hw
    have d4 := hd.2.2.2.1
    have e9 : v w 9 = dR D := by rw [hF w (by omega) (by omega) (by omega) (by omega)]; exact h9
    have e10 : v w 10 = dW D 0 := by rw [hF w (by omega) (by omega) (by omega) (by omega)]; exact h10
    have e7 : v (w + 7) = v0 (w + 7) := hF _ (by omega) (by omega) (by omega) (by omega)
    have hm : (r : Int) * dW D 0 ≤ 3 * 6 := Int.mul_le_mul (by omega) hC.2 (by omega) (by omega)
    have hm0 : 0 ≤ (r : Int) * dW D 0 := Int.mul_nonneg (by omega) (by omega)
    have hm1 : ((r : Int) + 1) * dW D 0 = r * dW D 0 + dW D 0 := by rw [Int.add_mul, Int.one_mul]
    refine zgo ck_Wa_lay 300 21 _ _ _ _ rfl (sg_Wa_lay_21 ?_)
    match m, hi with
    | 0, hi =>
      simp only [e10]
      refine ⟨by first | decide | omega, ⟨fun q1 => ⟨⟨by first | decide | omega, by first | decide | omega⟩, ?_⟩, fun q2 => ⟨by first | decide | omega, ⟨by first | decide | omega, by first | decide | omega⟩, ⟨by first | decide | omega, by first | decide | omega⟩, by first | decide | omega, by first | decide | omega, ⟨by first | decide | omega, by first | decide | omega⟩, by first | decide | omega, by first | decide | omega, ⟨by first | decide | omega, by first | decide | omega⟩, by first | decide | omega, by first | decide | omega, ⟨by first | decide | omega, by first | decide | omega⟩, ⟨by first | decide | omega, by first | decide | omega⟩, by first | decide | omega, ⟨by first | decide | omega, by first | decide | omega⟩, by first | decide | omega, ⟨by first | decide | omega, by first | decide | omega⟩, by first | decide | omega, ⟨by first | decide | omega, by first | decide | omega⟩, ⟨fun q3 => ?_, fun q4 => ⟨by first | decide | omega, ⟨by first | decide | omega, by first | decide | omega⟩, ?_⟩⟩⟩⟩⟩
      try (any_goals (exfalso; first | omega | exact absurd trivial (by assumption)))
      refine K v hF ?_
      rw [hm1]
      rw [show (c : Int) = dW D 0 by omega] at hL
      exact hL
    | m + 1, hi =>
      obtain ⟨q1, q2⟩ := dm_C (r := (r : Int)) hC (c := (c : Int)) (by omega)
      have hA := hL
      generalize ea : (r : Int) * dW D 0 + c = a at hL q1 q2
      have e7c := h7 c (by omega) (by omega)
      rw [show 6 * (r : Int) + c = r * 6 + c by omega, ← e7] at e7c
      simp (disch := omega) only [zup_e, zup_ak, zup_j, e10, ea, e7c]
      have step : ∀ x : Int, x = sd (dR D) (dW D 0) a 0 → zJ l G 1 (d + 1) h_Wa_lay k_Wa_lay 115 Q QX 67 [(2, w), (0, (r : Int)), (0, (c : Int)), (0, a)] [(0, x), (0, a * 4), (2, w + 12)] (zupd (zupd (zupd v (w + 9) a r) (w + 10) a c) (w + 11) a (dE D (r * 6 + c))) 115 := by
        intro x hx
        have f9 : (zupd (zupd (zupd v (w + 9) a r) (w + 10) a c) (w + 11) a (dE D (r * 6 + c))) w 9 = dR D := by rw [zup_a (by omega), zup_a (by omega), zup_a (by omega)]; exact e9
        have f10 : (zupd (zupd (zupd v (w + 9) a r) (w + 10) a c) (w + 11) a (dE D (r * 6 + c))) w 10 = dW D 0 := by rw [zup_a (by omega), zup_a (by omega), zup_a (by omega)]; exact e10
        refine ly_67 hw f9 f10 (by omega) (by omega) (by omega) (by omega) (by omega) ?_
        have s1 : sd (dR D) (dW D 0) a 1 = if (r : Int) < dR D - 1 then a + dW D 0 else -1 := by unfold sd; rw [q1]; rfl
        have s2 : sd (dR D) (dW D 0) a 2 = if 0 < (c : Int) then a - 1 else -1 := by unfold sd; rw [q2]; rfl
        have s3 : sd (dR D) (dW D 0) a 3 = if (c : Int) < dW D 0 - 1 then a + 1 else -1 := by unfold sd; rw [q2]; rfl
        rw [← s1, ← s2, ← s3, hx]
        refine ly_21 hw hd hC h9 h10 hr h7 K m (c + 1) (by omega) (fun b b1 b2 b3 b4 => ?_) (fun b b1 b2 => ?_)
        · rw [zup_a b4, zup_a b4, zup_a b4, zup_a b4, zup_a b3, zup_a b2, zup_a b1]
          exact hF b b1 b2 b3 b4
        · have b2 : b < r * dW D 0 + ((c : Int) + 1) := b2
          simp (disch := omega) only [zup_ak]
          by_cases e : b = a
          · subst e
            simp (disch := omega) only [zup_ak, zup_e]
            refine ⟨q1.symm, q2.symm, ?_, fun i i1 i2 => ?_⟩
            · show _ = dE D (6 * (b / dW D 0) + b % dW D 0)
              rw [q1, q2, show 6 * (r : Int) + c = r * 6 + c by omega]
            · have : i = 0 ∨ i = 1 ∨ i = 2 ∨ i = 3 := by omega
              rcases this with rfl | rfl | rfl | rfl
              · simp (disch := omega) only [zup_j, zup_e, Int.add_zero]
                rfl
              · simp (disch := omega) only [zup_j, zup_e]
                rfl
              · simp (disch := omega) only [zup_j, zup_e]
                rfl
              · simp (disch := omega) only [zup_j, zup_e]
                rfl
          · obtain ⟨g1, g2, g3, g4⟩ := hL b b1 (by omega)
            simp (disch := omega) only [zup_ak, zup_j]
            refine ⟨g1, g2, g3, fun i i1 i2 => ?_⟩
            simp (disch := omega) only [zup_j, zup_ak]
            exact g4 i i1 i2
      have s0 : sd (dR D) (dW D 0) a 0 = if 0 < (r : Int) then a - dW D 0 else -1 := by unfold sd; rw [q1]; rfl
      by_cases cr : 0 < (r : Int)
      · rw [if_pos cr] at s0
        refine ⟨by first | decide | omega, ⟨fun q1 => ⟨⟨by first | decide | omega, by first | decide | omega⟩, ?_⟩, fun q2 => ⟨by first | decide | omega, ⟨by first | decide | omega, by first | decide | omega⟩, ⟨by first | decide | omega, by first | decide | omega⟩, by first | decide | omega, by first | decide | omega, ⟨by first | decide | omega, by first | decide | omega⟩, by first | decide | omega, by first | decide | omega, ⟨by first | decide | omega, by first | decide | omega⟩, by first | decide | omega, by first | decide | omega, ⟨by first | decide | omega, by first | decide | omega⟩, ⟨by first | decide | omega, by first | decide | omega⟩, by first | decide | omega, ⟨by first | decide | omega, by first | decide | omega⟩, by first | decide | omega, ⟨by first | decide | omega, by first | decide | omega⟩, by first | decide | omega, ⟨by first | decide | omega, by first | decide | omega⟩, ⟨fun q3 => ?_, fun q4 => ⟨by first | decide | omega, ⟨by first | decide | omega, by first | decide | omega⟩, ?_⟩⟩⟩⟩⟩
        try (any_goals (exfalso; first | omega | exact absurd trivial (by assumption)))
        exact step _ s0.symm
      · rw [if_neg cr] at s0
        refine ⟨by first | decide | omega, ⟨fun q1 => ⟨⟨by first | decide | omega, by first | decide | omega⟩, ?_⟩, fun q2 => ⟨by first | decide | omega, ⟨by first | decide | omega, by first | decide | omega⟩, ⟨by first | decide | omega, by first | decide | omega⟩, by first | decide | omega, by first | decide | omega, ⟨by first | decide | omega, by first | decide | omega⟩, by first | decide | omega, by first | decide | omega, ⟨by first | decide | omega, by first | decide | omega⟩, by first | decide | omega, by first | decide | omega, ⟨by first | decide | omega, by first | decide | omega⟩, ⟨by first | decide | omega, by first | decide | omega⟩, by first | decide | omega, ⟨by first | decide | omega, by first | decide | omega⟩, by first | decide | omega, ⟨by first | decide | omega, by first | decide | omega⟩, by first | decide | omega, ⟨by first | decide | omega, by first | decide | omega⟩, ⟨fun q3 => ?_, fun q4 => ⟨by first | decide | omega, ⟨by first | decide | omega, by first | decide | omega⟩, ?_⟩⟩⟩⟩⟩
        try (any_goals (exfalso; first | omega | exact absurd trivial (by assumption)))
        exact step _ s0.symm
theorem ly_15 {w : Int} {D : zDf} {v0 : zH} {QX : Nat → zH → Prop} (hw : zwo w) (hd : dOk D) (hC : 1 ≤ dW D 0 ∧ dW D 0 ≤ 6) (h9 : v0 w 9 = dR D) (h10 : v0 w 10 = dW D 0) (h7 : ∀ r c : Int, 0 ≤ r → r < dR D → 0 ≤ c → c < dW D 0 → v0 (w + 7) (6 * r + c) = dE D (6 * r + c))
    (K : ∀ v' : zH, Fl w v0 v' → LY v' w (dWl D) (dR D * dW D 0) → Q 0 v') :
    ∀ (m r : Nat) {v : zH}, (r : Int) + m = dR D → Fl w v0 v → LY v w (dWl D) (r * dW D 0) → zJ l G 1 (d + 1) h_Wa_lay k_Wa_lay 115 Q QX 15 [(2, w), (0, (r : Int)), (3, 0), (3, 0)] [] v 115
  | m, r, v, hi, hF, hL => by
    obtain ⟨w0, w1, w3, w5, ⟨w7, w7'⟩, ⟨w8, w8'⟩, ⟨w9, w9'⟩, ⟨w10, w10'⟩, ⟨w11, w11'⟩, ⟨w12, w12'⟩⟩ := zwo_f hw
    have d4 := hd.2.2.2.1
    have e9 : v w 9 = dR D := by rw [hF w (by omega) (by omega) (by omega) (by omega)]; exact h9
    refine zgo ck_Wa_lay 300 15 _ _ _ _ rfl (sg_Wa_lay_15 ?_)
    simp only [e9]
    match m, hi with
    | 0, hi =>
      refine ⟨by first | decide | omega, ⟨fun q1 => ?_, fun q2 => ?_⟩⟩
      try (any_goals (exfalso; first | omega | exact absurd trivial (by assumption)))
      rw [show (r : Int) = dR D by omega] at hL
      exact K v hF hL
    | m + 1, hi =>
      refine ⟨by first | decide | omega, ⟨fun q1 => ?_, fun q2 => ?_⟩⟩
      try (any_goals (exfalso; first | omega | exact absurd trivial (by assumption)))
      refine ly_21 hw hd hC h9 h10 (by omega) (fun c c1 c2 => h7 r c (by omega) (by omega) c1 c2) (fun v' f1 f2 => ly_15 hw hd hC h9 h10 h7 K m (r + 1) (by omega) f1 f2) (dW D 0).toNat 0 (by omega) hF ?_
      rw [show (r : Int) * dW D 0 + ((0 : Nat) : Int) = r * dW D 0 from Int.add_zero _]
      exact hL
theorem c_Wa_lay {w : Int} {D : zDf} (hw : zwo w) (hd : dOk D) (hs : dSt D = true) (hD : DR v w D) (K : ∀ v' : zH, (∀ b : Int, b ≠ w → b ≠ w + 9 → b ≠ w + 10 → b ≠ w + 11 → b ≠ w + 12 → v' b = v b) → WL v' w (dWl D) → Q 0 v') : zC l G 1 (d + 1) h_Wa_lay [(2, w)] v 115 Q := by
  obtain ⟨w0, w1, w3, w5, ⟨w7, w7'⟩, ⟨w8, w8'⟩, ⟨w9, w9'⟩, ⟨w10, w10'⟩, ⟨w11, w11'⟩, ⟨w12, w12'⟩⟩ := zwo_f hw
  obtain ⟨k1, k2, k3, k4, k5, k6⟩ := hD
  have d4 := hd.2.2.2.1
  have hst := dSt_iff.mp hs
  have hC := (hd.2.2.2.2 0 (by omega) (by omega)).1
  have hm : dR D * dW D 0 ≤ 4 * 6 := Int.mul_le_mul d4.2 hC.2 (by omega) (by omega)
  have hm0 : 0 ≤ dR D * dW D 0 := Int.mul_nonneg d4.1 (by omega)
  refine zC_at ok_Wa_lay ck_Wa_lay rfl rfl (sg_Wa_lay_0 ?_)
  simp (disch := omega) only [zup_e, zup_ak, zup_j, k4, k5 0 (by omega) (by omega)]
  refine ⟨by first | decide | omega, by first | decide | omega, ⟨by first | decide | omega, by first | decide | omega⟩, by first | decide | omega, by first | decide | omega, by first | decide | omega, ⟨by first | decide | omega, by first | decide | omega⟩, by first | decide | omega, ?_⟩
  have hfa : ∀ b : Int, b ≠ w → (zupd (zupd v w 10 (dW D 0)) w 11 (dR D * dW D 0)) b = v b := fun b q => (zup_a q).trans (zup_a q)
  have hf9 : (zupd (zupd v w 10 (dW D 0)) w 11 (dR D * dW D 0)) w 9 = dR D := by rw [zup_j (by omega), zup_j (by omega)]; exact k4
  have hf10 : (zupd (zupd v w 10 (dW D 0)) w 11 (dR D * dW D 0)) w 10 = dW D 0 := by rw [zup_j (by omega)]; exact zup_s
  have hf11 : (zupd (zupd v w 10 (dW D 0)) w 11 (dR D * dW D 0)) w 11 = dR D * dW D 0 := zup_s
  refine ly_15 (D := D) hw hd hC hf9 hf10 (fun r c r1 r2 c1 c2 => ?_) (fun v' f1 f2 => ?_) (dR D).toNat 0 (by omega) (fun _ _ _ _ _ => rfl) (fun a a1 a2 => ?_)
  · rw [hfa _ (by omega)]
    refine k6.1 r c r1 r2 c1 ?_
    have := (dRow_iff.mp (hst.2.2.1 r r1 (by omega))).1
    omega
  · have hG : ∀ b : Int, b ≠ w → b ≠ w + 9 → b ≠ w + 10 → b ≠ w + 11 → b ≠ w + 12 → v' b = v b := fun b b0 b1 b2 b3 b4 => (f1 b b1 b2 b3 b4).trans (hfa b b0)
    have hw0 := f1 w (by omega) (by omega) (by omega) (by omega)
    refine K v' hG ⟨?_, ?_, ?_, ?_, ?_, ?_, fun j j1 j2 => ?_, fun j j1 j2 => ?_, fun j j1 j2 => ?_, f2⟩
    · rw [hw0]; exact hf9
    · rw [hw0]; exact hf10
    · rw [hw0]; exact hf11
    · rw [hG (w + 1) (by omega) (by omega) (by omega) (by omega) (by omega)]; exact k1.1
    · rw [hG (w + 3) (by omega) (by omega) (by omega) (by omega) (by omega)]; exact k2.1
    · rw [hG (w + 5) (by omega) (by omega) (by omega) (by omega) (by omega)]; exact k3.1
    · rw [hG (w + 1 + 1) (by omega) (by omega) (by omega) (by omega) (by omega)]; exact k1.2 j j1 j2
    · rw [hG (w + 3 + 1) (by omega) (by omega) (by omega) (by omega) (by omega)]; exact k2.2 j j1 j2
    · rw [hG (w + 5 + 1) (by omega) (by omega) (by omega) (by omega) (by omega)]; exact k3.2 j j1 j2
  · rw [show (((0 : Nat) : Int)) * dW D 0 = 0 from Int.zero_mul _] at a2
    omega
-- the course begun
def cBeg (W : zWl) : zCo := (0, fun _ => 0, wG W, fun k => wV W (5 * k + 2), fun k => wV W (5 * k + 3))
theorem be_26 {w : Int} {W : zWl} {v0 : zH} {QX : Nat → zH → Prop} (hw : zwo w) (hW : Wok W) (hl : WL v0 w W) (K : ∀ v' : zH, (∀ b : Int, b ≠ 24 + 4 → b ≠ 24 + 5 → v' b = v0 b) → (∀ k : Int, 0 ≤ k → k < wO W → v' (24 + 4) k = wV W (5 * k + 2) ∧ v' (24 + 5) k = wV W (5 * k + 3)) → Q 0 v') :
    ∀ (m i : Nat) {v : zH}, (i : Int) + m = wO W → (∀ b : Int, b ≠ 24 + 4 → b ≠ 24 + 5 → v b = v0 b) → (∀ k : Int, 0 ≤ k → k < i → v (24 + 4) k = wV W (5 * k + 2) ∧ v (24 + 5) k = wV W (5 * k + 3)) → zJ l G 1 (d + 2) h_Co_begin k_Co_begin 115 Q QX 26 [(2, 24), (2, w), (0, (i : Int))] [] v 115
  | m, i, v, hi, hF, hk => by
    obtain ⟨w0, w1, w3, w5, ⟨w7, w7'⟩, ⟨w8, w8'⟩, ⟨w9, w9'⟩, ⟨w10, w10'⟩, ⟨w11, w11'⟩, ⟨w12, w12'⟩⟩ := zwo_f hw
    have hw5 : 51 ≤ w := by rcases hw with rfl | rfl <;> omega
    have hl1 : WL v w W := WL_fr (fun a h1 h2 => hF a (by omega) (by omega)) hl
    have hO := hW.2.2.2.2.2.2.2.1
    have e6 := hl1.2.2.2.2.1
    have z4 : zCL (24 + 4) = 20 ∧ zLN (24 + 4) = 3 := by decide
    have z5 : zCL (24 + 5) = 20 ∧ zLN (24 + 5) = 3 := by decide
    refine zgo ck_Co_begin 300 26 _ _ _ _ rfl (sg_Co_begin_26 ?_)
    simp only [e6]
    match m, hi with
    | 0, hi =>
      refine ⟨by first | decide | omega, by first | decide | omega, ⟨fun q1 => ?_, fun q2 => ⟨by first | decide | omega, by first | decide | omega, by first | decide | omega, ?_⟩⟩⟩
      try (any_goals (exfalso; first | omega | exact absurd trivial (by assumption)))
      exact K v hF (fun k h1 h2 => hk k h1 (by omega))
    | m + 1, hi =>
      refine ⟨by first | decide | omega, by first | decide | omega, ⟨fun q1 => ?_, fun q2 => ⟨by first | decide | omega, by first | decide | omega, by first | decide | omega, ?_⟩⟩⟩
      try (any_goals (exfalso; first | omega | exact absurd trivial (by assumption)))
      refine n_ov hw hW hl1 (by omega) (by omega) ?_
      refine ⟨by first | decide | omega, ⟨by first | decide | omega, by first | decide | omega⟩, by first | decide | omega, by first | decide | omega, by first | decide | omega, ?_⟩
      have hl2 : WL (zupd v (24 + 4) i (wV W (5 * i + 2))) w W := WL_fr (fun a h1 h2 => zup_a (by omega)) hl1
      refine n_ov hw hW hl2 (by omega) (by omega) ?_
      refine ⟨by first | decide | omega, ⟨by first | decide | omega, by first | decide | omega⟩, ⟨by first | decide | omega, by first | decide | omega⟩, ?_⟩
      refine be_26 hw hW hl K m (i + 1) (by omega) (fun b b1 b2 => (zup_a b2).trans ((zup_a b1).trans (hF b b1 b2))) (fun k h1 h2 => ?_)
      by_cases e : k = i
      · rw [e, zup_a (by omega), zup_s, zup_s]
        exact ⟨rfl, rfl⟩
      · rw [zup_a (by omega), zup_j e, zup_j e, zup_a (by omega)]
        exact hk k h1 (by omega)
theorem be_5 {w : Int} {W : zWl} {v0 : zH} {QX : Nat → zH → Prop} (hw : zwo w) (hW : Wok W) (hl : WL v0 w W) (K : ∀ v' : zH, (∀ b : Int, b ≠ 24 + 1 → b ≠ 24 + 3 → v' b = v0 b) → (∀ a : Int, 0 ≤ a → a < wN W → v' (24 + 1) a = 0 ∧ v' (24 + 3) a = wG W a) → zJ l G 1 (d + 2) h_Co_begin k_Co_begin 115 Q QX 26 [(2, 24), (2, w), (0, 0)] [] v' 115) :
    ∀ (m i : Nat) {v : zH}, (i : Int) + m = wN W → (∀ b : Int, b ≠ 24 + 1 → b ≠ 24 + 3 → v b = v0 b) → (∀ a : Int, 0 ≤ a → a < i → v (24 + 1) a = 0 ∧ v (24 + 3) a = wG W a) → zJ l G 1 (d + 2) h_Co_begin k_Co_begin 115 Q QX 5 [(2, 24), (2, w), (0, (i : Int))] [] v 115
  | m, i, v, hi, hF, hk => by
    obtain ⟨w0, w1, w3, w5, ⟨w7, w7'⟩, ⟨w8, w8'⟩, ⟨w9, w9'⟩, ⟨w10, w10'⟩, ⟨w11, w11'⟩, ⟨w12, w12'⟩⟩ := zwo_f hw
    have hw5 : 51 ≤ w := by rcases hw with rfl | rfl <;> omega
    have hl1 : WL v w W := WL_fr (fun a h1 h2 => hF a (by omega) (by omega)) hl
    have hN := hW.2.2.2.1
    have e6 := hl1.2.2.1
    have z1 : zCL (24 + 1) = 20 ∧ zLN (24 + 1) = 24 := by decide
    have z3 : zCL (24 + 3) = 20 ∧ zLN (24 + 3) = 24 := by decide
    refine zgo ck_Co_begin 300 5 _ _ _ _ rfl (sg_Co_begin_5 ?_)
    simp (disch := omega) only [zup_ak, e6]
    match m, hi with
    | 0, hi =>
      refine ⟨by first | decide | omega, ⟨fun q1 => ?_, fun q2 => ⟨by first | decide | omega, by first | decide | omega, ⟨by first | decide | omega, by first | decide | omega⟩, by first | decide | omega, by first | decide | omega, by first | decide | omega, ⟨by first | decide | omega, by first | decide | omega⟩, by first | decide | omega, ⟨by first | decide | omega, by first | decide | omega⟩, ⟨by first | decide | omega, by first | decide | omega⟩, ?_⟩⟩⟩
      try (any_goals (exfalso; first | omega | exact absurd trivial (by assumption)))
      exact K v hF (fun k h1 h2 => hk k h1 (by omega))
    | m + 1, hi =>
      have e11 := (hl1.2.2.2.2.2.2.2.2.2 i (by omega) (by omega)).2.2.1
      simp only [e11]
      refine ⟨by first | decide | omega, ⟨fun q1 => ?_, fun q2 => ⟨by first | decide | omega, by first | decide | omega, ⟨by first | decide | omega, by first | decide | omega⟩, by first | decide | omega, by first | decide | omega, by first | decide | omega, ⟨by first | decide | omega, by first | decide | omega⟩, by first | decide | omega, ⟨by first | decide | omega, by first | decide | omega⟩, ⟨by first | decide | omega, by first | decide | omega⟩, ?_⟩⟩⟩
      try (any_goals (exfalso; first | omega | exact absurd trivial (by assumption)))
      refine be_5 hw hW hl K m (i + 1) (by omega) (fun b b1 b2 => (zup_a b2).trans ((zup_a b1).trans (hF b b1 b2))) (fun k h1 h2 => ?_)
      by_cases e : k = i
      · rw [e, zup_a (by omega), zup_s, zup_s]
        exact ⟨rfl, rfl⟩
      · rw [zup_a (by omega), zup_j e, zup_j e, zup_a (by omega)]
        exact hk k h1 (by omega)
theorem c_Co_begin {w : Int} {W : zWl} (hw : zwo w) (hW : Wok W) (hl : WL v w W) (K : ∀ v' : zH, (∀ b : Int, b < 24 ∨ 29 < b → v' b = v b) → CO v' 24 W (cBeg W) → Q 0 v') : zC l G 1 (d + 2) h_Co_begin [(2, 24), (2, w)] v 115 Q := by
  have hw5 : 51 ≤ w := by rcases hw with rfl | rfl <;> omega
  have hN := hW.2.2.2.1
  have hO := hW.2.2.2.2.2.2.2.1
  obtain ⟨w0, w1, w3, w5, ⟨w7, w7'⟩, ⟨w8, w8'⟩, ⟨w9, w9'⟩, ⟨w10, w10'⟩, ⟨w11, w11'⟩, ⟨w12, w12'⟩⟩ := zwo_f hw
  refine zC_at ok_Co_begin ck_Co_begin rfl rfl (sg_Co_begin_0 ?_)
  refine ⟨by first | decide | omega, ?_⟩
  have hf : ∀ b : Int, b ≠ 24 → (zupd v 24 8 0) b = v b := fun b q => zup_a q
  refine be_5 hw hW (WL_fr (fun a h1 h2 => hf a (by omega)) hl) (fun v1 f1 f2 => ?_) (wN W).toNat 0 (by omega) (fun _ _ _ => rfl) (fun a h1 h2 => by omega)
  refine be_26 hw hW (WL_fr (fun a h1 h2 => (f1 a (by omega) (by omega)).trans (hf a (by omega))) hl) (fun v2 g1 g2 => ?_) (wO W).toNat 0 (by omega) (fun _ _ _ => rfl) (fun a h1 h2 => by omega)
  refine K v2 (fun b b1 => (g1 b (by omega) (by omega)).trans ((f1 b (by omega) (by omega)).trans (hf b (by omega)))) ⟨?_, fun a a1 a2 => ?_, g2⟩
  · rw [g1 24 (by omega) (by omega), f1 24 (by omega) (by omega)]
    exact zup_s
  · rw [g1 (24 + 1) (by omega) (by omega), g1 (24 + 3) (by omega) (by omega)]
    exact f2 a a1 a2
end
