/-! THE CLASS: a law read: conditions -/
section
variable {l : Launch} {G : zG} {d : Nat} {v : zH} {Q : Int → zH → Prop}
theorem LR_truth_2 {X : zTp} {D : Nat} {j bf : Int} {it0 it : zPs} {L : Int} {ts : List Int} {v0 : zH} {R : zPx (List Int)} {QX : Nat → zH → Prop} (ht : tOk X) (hgd0 : pGl X it0) (hgd1 : pGl X it) (hit0 : bf = 1 → LRc l G X (D + 2) h_LR_unit [(0, j), (0, 1)] it0) (hit1 : LRc l G X (D + 2) h_LR_unit [(0, j), (0, 0)] it) (hL : zlo L) (hbf : bf = 0 ∨ bf = 1)
    (Ke : ∀ (e : Int) (v' : zH), R = .error e → Fx L v0 v' → v' 4 1 = e → Q 0 v') (Ko : ∀ (q : Int) (t : List Int) (v' : zH), R = .ok (q, t) → Fx L v0 v' → v' 4 1 = q → LW v' L (ts ++ t) → Q 1 v') :
    ∀ (m : Nat) {v : zH} {pl i : Int} {acc pend : List Int}, X.2 - pl < m → TP v X → Fx L v0 v → LW v L (ts ++ acc) → v 4 1 = pl → 0 ≤ pl → pl ≤ X.2 → 0 ≤ i → i ≤ pl → ((ts.length : Int) + acc.length + pend.length ≤ pl) → (i = 0 → pend = []) → (i ≠ 0 → pend = [-38]) → R = (match (if bf = 1 ∧ i = 0 then it0 else it) pl with
      | .error e => .error e
      | .ok (q, t) => pTl X isAnd it q (acc ++ t ++ pend)) →
    zJ l G 1 (D + 3) h_LR_truth k_LR_truth 115 Q QX 2 [(2, 4), (2, L), (0, j), (0, bf), (0, i)] [] v 115
  | 0, v, pl, i, acc, pend, hm, hX, hF, hW, hp, h0, h1, hi0, hi, hlen, hp0, hp1, hR => by omega
  | m + 1, v, pl, i, acc, pend, hm, hX, hF, hW, hp, h0, h1, hi0, hi, hlen, hp0, hp1, hR => by
    have hn1 := ht.1
    obtain ⟨f1, f2, f3, f4, f5⟩ := zlo_f hL
    have e41 : (4 + (-3) : Int) = 1 := rfl
    refine zgo ck_LR_truth 300 2 _ _ _ _ rfl (sg_LR_truth_2 ?_)
    simp only [e41, hX.1]
    by_cases hb0 : bf = 0
    · rw [if_neg (fun r => by omega)] at hR
      refine ⟨by first | decide | omega, by first | decide | omega, ⟨fun q1 => ⟨by first | decide | omega, ?_⟩, fun q2 => ⟨fun q3 => ⟨by first | decide | omega, ?_⟩, fun q4 => ⟨fun q5 => ⟨by first | decide | omega, ?_⟩, fun q6 => ⟨by first | decide | omega, ?_⟩⟩⟩⟩⟩
      try (any_goals (exfalso; first | omega | exact absurd trivial (by assumption)))
      refine hit1 L (ts ++ acc) pl v _ hL hX hW hp h0 h1 (by simp; omega) (fun e v1 n1 n2 n3 => ?_) (fun q t v1 n1 n2 n3 n4 => ?_)
      · rw [n1] at hR
        refine ⟨fun q1 => ⟨fun q2 => ⟨by first | decide | omega, ?_⟩, fun q3 => ⟨by first | decide | omega, ?_⟩⟩, fun q4 => ⟨by first | decide | omega, ?_⟩⟩
        try (any_goals (exfalso; first | omega | exact absurd trivial (by assumption)))
        exact Ke e v1 hR (Fx_tr hF n2) n3
      obtain ⟨g1, g2, g3⟩ := (hgd1 pl h0 h1).2 q t n1
      rw [n1] at hR
      simp only at hR
      rw [pTl_1 (fun _ h => (sep_and h).1) hgd1 (by omega) g2] at hR
      have hb := pS_b (X := X) q
      by_cases hi1 : i = 0
      · skip
        have hpe := hp0 hi1
        refine ⟨fun q1 => ⟨fun q2 => ⟨by first | decide | omega, ?_⟩, fun q3 => ⟨by first | decide | omega, ?_⟩⟩, fun q4 => ⟨by first | decide | omega, ?_⟩⟩
        try (any_goals (exfalso; first | omega | exact absurd trivial (by assumption)))
        have hq2 := n3
        have hX2 := Fx_TP hL n2 hX
        have hF2 := Fx_tr hF n2
        have hW2 : LW v1 L (ts ++ (acc ++ t ++ pend)) := by rw [hpe, List.append_nil, ← List.append_assoc]; exact n4
        refine c_LR_takes ht hX2 hq2 (by omega) g2 (by omega) (fun c v3 s1 s2 => ?_) (fun c v3 s1 s2 => ?_)
        · rw [if_pos (by simp [isAnd, c])] at hR
          have hlt := pC_lt (X := X) (p := q) (by omega)
          refine ⟨fun q1 => ⟨⟨by first | decide | omega, by first | decide | omega⟩, ?_⟩, fun q2 => ⟨by first | decide | omega, ?_⟩⟩
          try (any_goals (exfalso; first | omega | exact absurd trivial (by assumption)))
          exact LR_truth_2 ht hgd0 hgd1 hit0 hit1 hL hbf Ke Ko m (i := i + 1) (acc := acc ++ t ++ pend) (pend := [-38]) (by omega) (Fx_TP hL (Fx_4 s1) hX2) (Fx_tr hF2 (Fx_4 s1)) (LW_4 hL s1 hW2) s2 (by omega) (by omega) (by omega) (by omega) (by simp; omega) (fun r => by omega) (fun _ => rfl) (by rw [if_neg (fun r => by omega)]; rw [c] at hR; exact hR)
        · rw [if_neg (by simp [isAnd, c])] at hR
          refine ⟨fun q1 => ⟨⟨by first | decide | omega, by first | decide | omega⟩, ?_⟩, fun q2 => ⟨by first | decide | omega, ?_⟩⟩
          try (any_goals (exfalso; first | omega | exact absurd trivial (by assumption)))
          exact Ko _ _ v3 hR (Fx_tr hF2 (Fx_4 s1)) s2 (LW_4 hL s1 hW2)
      · skip
        have hpe := hp1 hi1
        have hlp : pend.length = 1 := by rw [hpe]; rfl
        refine ⟨fun q1 => ⟨fun q2 => ⟨by first | decide | omega, ?_⟩, fun q3 => ⟨by first | decide | omega, ?_⟩⟩, fun q4 => ⟨by first | decide | omega, ?_⟩⟩
        try (any_goals (exfalso; first | omega | exact absurd trivial (by assumption)))
        refine c_La_addSign hL n4 (by simp; omega) (by omega) (fun v2 m1 m2 => ?_)
        have hq2 : v2 4 1 = q := (congrFun (m1 4 (by rcases hL with rfl | rfl | rfl | rfl | rfl <;> omega) (by rcases hL with rfl | rfl | rfl | rfl | rfl <;> omega)) 1).trans n3
        have hX2 := Fx_TP hL (Fx_tr n2 (Fx_L m1)) hX
        have hF2 := Fx_tr hF (Fx_tr n2 (Fx_L m1))
        have hW2 : LW v2 L (ts ++ (acc ++ t ++ pend)) := by rw [hpe, ← List.append_assoc, ← List.append_assoc]; exact m2
        refine ⟨by first | decide | omega, ?_⟩
        try (any_goals (exfalso; first | omega | exact absurd trivial (by assumption)))
        refine c_LR_takes ht hX2 hq2 (by omega) g2 (by omega) (fun c v3 s1 s2 => ?_) (fun c v3 s1 s2 => ?_)
        · rw [if_pos (by simp [isAnd, c])] at hR
          have hlt := pC_lt (X := X) (p := q) (by omega)
          refine ⟨fun q1 => ⟨⟨by first | decide | omega, by first | decide | omega⟩, ?_⟩, fun q2 => ⟨by first | decide | omega, ?_⟩⟩
          try (any_goals (exfalso; first | omega | exact absurd trivial (by assumption)))
          exact LR_truth_2 ht hgd0 hgd1 hit0 hit1 hL hbf Ke Ko m (i := i + 1) (acc := acc ++ t ++ pend) (pend := [-38]) (by omega) (Fx_TP hL (Fx_4 s1) hX2) (Fx_tr hF2 (Fx_4 s1)) (LW_4 hL s1 hW2) s2 (by omega) (by omega) (by omega) (by omega) (by simp; omega) (fun r => by omega) (fun _ => rfl) (by rw [if_neg (fun r => by omega)]; rw [c] at hR; exact hR)
        · rw [if_neg (by simp [isAnd, c])] at hR
          refine ⟨fun q1 => ⟨⟨by first | decide | omega, by first | decide | omega⟩, ?_⟩, fun q2 => ⟨by first | decide | omega, ?_⟩⟩
          try (any_goals (exfalso; first | omega | exact absurd trivial (by assumption)))
          exact Ko _ _ v3 hR (Fx_tr hF2 (Fx_4 s1)) s2 (LW_4 hL s1 hW2)
    · by_cases hi2 : i = 0
      · rw [if_pos ⟨by omega, hi2⟩] at hR
        have hi1 := hi2
        have hit0 := hit0 (by omega)
        have hbi : bf = 1 := by omega
        refine ⟨by first | decide | omega, by first | decide | omega, ⟨fun q1 => ⟨by first | decide | omega, ?_⟩, fun q2 => ⟨fun q3 => ⟨by first | decide | omega, ?_⟩, fun q4 => ⟨fun q5 => ⟨by first | decide | omega, ?_⟩, fun q6 => ⟨by first | decide | omega, ?_⟩⟩⟩⟩⟩
        try (any_goals (exfalso; first | omega | exact absurd trivial (by assumption)))
        refine hit0 L (ts ++ acc) pl v _ hL hX hW hp h0 h1 (by simp; omega) (fun e v1 n1 n2 n3 => ?_) (fun q t v1 n1 n2 n3 n4 => ?_)
        · rw [n1] at hR
          refine ⟨fun q1 => ⟨fun q2 => ⟨by first | decide | omega, ?_⟩, fun q3 => ⟨by first | decide | omega, ?_⟩⟩, fun q4 => ⟨by first | decide | omega, ?_⟩⟩
          try (any_goals (exfalso; first | omega | exact absurd trivial (by assumption)))
          exact Ke e v1 hR (Fx_tr hF n2) n3
        obtain ⟨g1, g2, g3⟩ := (hgd0 pl h0 h1).2 q t n1
        rw [n1] at hR
        simp only at hR
        rw [pTl_1 (fun _ h => (sep_and h).1) hgd1 (by omega) g2] at hR
        have hb := pS_b (X := X) q
        · skip
          have hpe := hp0 hi1
          refine ⟨fun q1 => ⟨fun q2 => ⟨by first | decide | omega, ?_⟩, fun q3 => ⟨by first | decide | omega, ?_⟩⟩, fun q4 => ⟨by first | decide | omega, ?_⟩⟩
          try (any_goals (exfalso; first | omega | exact absurd trivial (by assumption)))
          have hq2 := n3
          have hX2 := Fx_TP hL n2 hX
          have hF2 := Fx_tr hF n2
          have hW2 : LW v1 L (ts ++ (acc ++ t ++ pend)) := by rw [hpe, List.append_nil, ← List.append_assoc]; exact n4
          refine c_LR_takes ht hX2 hq2 (by omega) g2 (by omega) (fun c v3 s1 s2 => ?_) (fun c v3 s1 s2 => ?_)
          · rw [if_pos (by simp [isAnd, c])] at hR
            have hlt := pC_lt (X := X) (p := q) (by omega)
            refine ⟨fun q1 => ⟨⟨by first | decide | omega, by first | decide | omega⟩, ?_⟩, fun q2 => ⟨by first | decide | omega, ?_⟩⟩
            try (any_goals (exfalso; first | omega | exact absurd trivial (by assumption)))
            exact LR_truth_2 ht hgd0 hgd1 (fun _ => hit0) hit1 hL hbf Ke Ko m (i := i + 1) (acc := acc ++ t ++ pend) (pend := [-38]) (by omega) (Fx_TP hL (Fx_4 s1) hX2) (Fx_tr hF2 (Fx_4 s1)) (LW_4 hL s1 hW2) s2 (by omega) (by omega) (by omega) (by omega) (by simp; omega) (fun r => by omega) (fun _ => rfl) (by rw [if_neg (fun r => by omega)]; rw [c] at hR; exact hR)
          · rw [if_neg (by simp [isAnd, c])] at hR
            refine ⟨fun q1 => ⟨⟨by first | decide | omega, by first | decide | omega⟩, ?_⟩, fun q2 => ⟨by first | decide | omega, ?_⟩⟩
            try (any_goals (exfalso; first | omega | exact absurd trivial (by assumption)))
            exact Ko _ _ v3 hR (Fx_tr hF2 (Fx_4 s1)) s2 (LW_4 hL s1 hW2)
      · rw [if_neg (fun r => hi2 r.2)] at hR
        have hi1 := hi2
        refine ⟨by first | decide | omega, by first | decide | omega, ⟨fun q1 => ⟨by first | decide | omega, ?_⟩, fun q2 => ⟨fun q3 => ⟨by first | decide | omega, ?_⟩, fun q4 => ⟨fun q5 => ⟨by first | decide | omega, ?_⟩, fun q6 => ⟨by first | decide | omega, ?_⟩⟩⟩⟩⟩
        try (any_goals (exfalso; first | omega | exact absurd trivial (by assumption)))
        refine hit1 L (ts ++ acc) pl v _ hL hX hW hp h0 h1 (by simp; omega) (fun e v1 n1 n2 n3 => ?_) (fun q t v1 n1 n2 n3 n4 => ?_)
        · rw [n1] at hR
          refine ⟨fun q1 => ⟨fun q2 => ⟨by first | decide | omega, ?_⟩, fun q3 => ⟨by first | decide | omega, ?_⟩⟩, fun q4 => ⟨by first | decide | omega, ?_⟩⟩
          try (any_goals (exfalso; first | omega | exact absurd trivial (by assumption)))
          exact Ke e v1 hR (Fx_tr hF n2) n3
        obtain ⟨g1, g2, g3⟩ := (hgd1 pl h0 h1).2 q t n1
        rw [n1] at hR
        simp only at hR
        rw [pTl_1 (fun _ h => (sep_and h).1) hgd1 (by omega) g2] at hR
        have hb := pS_b (X := X) q
        · skip
          have hpe := hp1 hi1
          have hlp : pend.length = 1 := by rw [hpe]; rfl
          refine ⟨fun q1 => ⟨fun q2 => ⟨by first | decide | omega, ?_⟩, fun q3 => ⟨by first | decide | omega, ?_⟩⟩, fun q4 => ⟨by first | decide | omega, ?_⟩⟩
          try (any_goals (exfalso; first | omega | exact absurd trivial (by assumption)))
          refine c_La_addSign hL n4 (by simp; omega) (by omega) (fun v2 m1 m2 => ?_)
          have hq2 : v2 4 1 = q := (congrFun (m1 4 (by rcases hL with rfl | rfl | rfl | rfl | rfl <;> omega) (by rcases hL with rfl | rfl | rfl | rfl | rfl <;> omega)) 1).trans n3
          have hX2 := Fx_TP hL (Fx_tr n2 (Fx_L m1)) hX
          have hF2 := Fx_tr hF (Fx_tr n2 (Fx_L m1))
          have hW2 : LW v2 L (ts ++ (acc ++ t ++ pend)) := by rw [hpe, ← List.append_assoc, ← List.append_assoc]; exact m2
          refine ⟨by first | decide | omega, ?_⟩
          try (any_goals (exfalso; first | omega | exact absurd trivial (by assumption)))
          refine c_LR_takes ht hX2 hq2 (by omega) g2 (by omega) (fun c v3 s1 s2 => ?_) (fun c v3 s1 s2 => ?_)
          · rw [if_pos (by simp [isAnd, c])] at hR
            have hlt := pC_lt (X := X) (p := q) (by omega)
            refine ⟨fun q1 => ⟨⟨by first | decide | omega, by first | decide | omega⟩, ?_⟩, fun q2 => ⟨by first | decide | omega, ?_⟩⟩
            try (any_goals (exfalso; first | omega | exact absurd trivial (by assumption)))
            exact LR_truth_2 ht hgd0 hgd1 hit0 hit1 hL hbf Ke Ko m (i := i + 1) (acc := acc ++ t ++ pend) (pend := [-38]) (by omega) (Fx_TP hL (Fx_4 s1) hX2) (Fx_tr hF2 (Fx_4 s1)) (LW_4 hL s1 hW2) s2 (by omega) (by omega) (by omega) (by omega) (by simp; omega) (fun r => by omega) (fun _ => rfl) (by rw [if_neg (fun r => by omega)]; rw [c] at hR; exact hR)
          · rw [if_neg (by simp [isAnd, c])] at hR
            refine ⟨fun q1 => ⟨⟨by first | decide | omega, by first | decide | omega⟩, ?_⟩, fun q2 => ⟨by first | decide | omega, ?_⟩⟩
            try (any_goals (exfalso; first | omega | exact absurd trivial (by assumption)))
            exact Ko _ _ v3 hR (Fx_tr hF2 (Fx_4 s1)) s2 (LW_4 hL s1 hW2)
theorem c_LR_truth {X : zTp} {D : Nat} {j bf : Int} {it0 it : zPs} (hj : 0 ≤ j ∧ j ≤ 6) (ht : tOk X) (hgd0 : pGl X it0) (hgd1 : pGl X it) (hit0 : bf = 1 → LRc l G X (D + 2) h_LR_unit [(0, j), (0, 1)] it0) (hit1 : LRc l G X (D + 2) h_LR_unit [(0, j), (0, 0)] it) (hbf : bf = 0 ∨ bf = 1) : LRc l G X (D + 3) h_LR_truth [(0, j), (0, bf)] (if bf = 1 then pSep2 X isAnd it0 it else pSep X isAnd it) := by
  intro L ts p v Q hL hX hW hp h0 h1 hts Ke Ko
  obtain ⟨f1, f2, f3, f4, f5⟩ := zlo_f hL
  refine zC_at ok_LR_truth ck_LR_truth rfl rfl (sg_LR_truth_0 ?_)
  refine LR_truth_2 ht hgd0 hgd1 hit0 hit1 hL hbf Ke Ko ((X.2 - p).toNat + 1) (acc := []) (pend := []) (by omega) hX Fx_rf (by rw [List.append_nil]; exact hW) hp h0 h1 (by omega) (by omega) (by simp; exact hts) (fun _ => rfl) (fun r => absurd rfl r) ?_
  simp only [List.nil_append, List.append_nil]
  by_cases h : bf = 1
  · rw [if_pos h, if_pos ⟨h, trivial⟩]
    rfl
  · rw [if_neg h, if_neg (fun r => h r.1)]
    rfl
theorem LR_condition_2 {X : zTp} {D : Nat} {j bf : Int} {it0 it : zPs} {L : Int} {ts : List Int} {v0 : zH} {R : zPx (List Int)} {QX : Nat → zH → Prop} (ht : tOk X) (hgd0 : pGl X it0) (hgd1 : pGl X it) (hit0 : bf = 1 → LRc l G X (D + 2) h_LR_truth [(0, j), (0, 1)] it0) (hit1 : LRc l G X (D + 2) h_LR_truth [(0, j), (0, 0)] it) (hL : zlo L) (hbf : bf = 0 ∨ bf = 1)
    (Ke : ∀ (e : Int) (v' : zH), R = .error e → Fx L v0 v' → v' 4 1 = e → Q 0 v') (Ko : ∀ (q : Int) (t : List Int) (v' : zH), R = .ok (q, t) → Fx L v0 v' → v' 4 1 = q → LW v' L (ts ++ t) → Q 1 v') :
    ∀ (m : Nat) {v : zH} {pl i : Int} {acc pend : List Int}, X.2 - pl < m → TP v X → Fx L v0 v → LW v L (ts ++ acc) → v 4 1 = pl → 0 ≤ pl → pl ≤ X.2 → 0 ≤ i → i ≤ pl → ((ts.length : Int) + acc.length + pend.length ≤ pl) → (i = 0 → pend = []) → (i ≠ 0 → pend = [-124]) → R = (match (if bf = 1 ∧ i = 0 then it0 else it) pl with
      | .error e => .error e
      | .ok (q, t) => pTl X isOr it q (acc ++ t ++ pend)) →
    zJ l G 1 (D + 3) h_LR_condition k_LR_condition 115 Q QX 2 [(2, 4), (2, L), (0, j), (0, bf), (0, i)] [] v 115
  | 0, v, pl, i, acc, pend, hm, hX, hF, hW, hp, h0, h1, hi0, hi, hlen, hp0, hp1, hR => by omega
  | m + 1, v, pl, i, acc, pend, hm, hX, hF, hW, hp, h0, h1, hi0, hi, hlen, hp0, hp1, hR => by
    have hn1 := ht.1
    obtain ⟨f1, f2, f3, f4, f5⟩ := zlo_f hL
    have e41 : (4 + (-3) : Int) = 1 := rfl
    refine zgo ck_LR_condition 300 2 _ _ _ _ rfl (sg_LR_condition_2 ?_)
    simp only [e41, hX.1]
    by_cases hb0 : bf = 0
    · rw [if_neg (fun r => by omega)] at hR
      refine ⟨by first | decide | omega, by first | decide | omega, ⟨fun q1 => ⟨by first | decide | omega, ?_⟩, fun q2 => ⟨fun q3 => ⟨by first | decide | omega, ?_⟩, fun q4 => ⟨fun q5 => ⟨by first | decide | omega, ?_⟩, fun q6 => ⟨by first | decide | omega, ?_⟩⟩⟩⟩⟩
      try (any_goals (exfalso; first | omega | exact absurd trivial (by assumption)))
      refine hit1 L (ts ++ acc) pl v _ hL hX hW hp h0 h1 (by simp; omega) (fun e v1 n1 n2 n3 => ?_) (fun q t v1 n1 n2 n3 n4 => ?_)
      · rw [n1] at hR
        refine ⟨fun q1 => ⟨fun q2 => ⟨by first | decide | omega, ?_⟩, fun q3 => ⟨by first | decide | omega, ?_⟩⟩, fun q4 => ⟨by first | decide | omega, ?_⟩⟩
        try (any_goals (exfalso; first | omega | exact absurd trivial (by assumption)))
        exact Ke e v1 hR (Fx_tr hF n2) n3
      obtain ⟨g1, g2, g3⟩ := (hgd1 pl h0 h1).2 q t n1
      rw [n1] at hR
      simp only at hR
      rw [pTl_1 (fun _ h => (sep_or h).1) hgd1 (by omega) g2] at hR
      have hb := pS_b (X := X) q
      by_cases hi1 : i = 0
      · skip
        have hpe := hp0 hi1
        refine ⟨fun q1 => ⟨fun q2 => ⟨by first | decide | omega, ?_⟩, fun q3 => ⟨by first | decide | omega, ?_⟩⟩, fun q4 => ⟨by first | decide | omega, ?_⟩⟩
        try (any_goals (exfalso; first | omega | exact absurd trivial (by assumption)))
        have hq2 := n3
        have hX2 := Fx_TP hL n2 hX
        have hF2 := Fx_tr hF n2
        have hW2 : LW v1 L (ts ++ (acc ++ t ++ pend)) := by rw [hpe, List.append_nil, ← List.append_assoc]; exact n4
        refine c_LR_takes ht hX2 hq2 (by omega) g2 (by omega) (fun c v3 s1 s2 => ?_) (fun c v3 s1 s2 => ?_)
        · rw [if_pos (by simp [isOr, c])] at hR
          have hlt := pC_lt (X := X) (p := q) (by omega)
          refine ⟨fun q1 => ⟨⟨by first | decide | omega, by first | decide | omega⟩, ?_⟩, fun q2 => ⟨by first | decide | omega, ?_⟩⟩
          try (any_goals (exfalso; first | omega | exact absurd trivial (by assumption)))
          exact LR_condition_2 ht hgd0 hgd1 hit0 hit1 hL hbf Ke Ko m (i := i + 1) (acc := acc ++ t ++ pend) (pend := [-124]) (by omega) (Fx_TP hL (Fx_4 s1) hX2) (Fx_tr hF2 (Fx_4 s1)) (LW_4 hL s1 hW2) s2 (by omega) (by omega) (by omega) (by omega) (by simp; omega) (fun r => by omega) (fun _ => rfl) (by rw [if_neg (fun r => by omega)]; rw [c] at hR; exact hR)
        · rw [if_neg (by simp [isOr, c])] at hR
          refine ⟨fun q1 => ⟨⟨by first | decide | omega, by first | decide | omega⟩, ?_⟩, fun q2 => ⟨by first | decide | omega, ?_⟩⟩
          try (any_goals (exfalso; first | omega | exact absurd trivial (by assumption)))
          exact Ko _ _ v3 hR (Fx_tr hF2 (Fx_4 s1)) s2 (LW_4 hL s1 hW2)
      · skip
        have hpe := hp1 hi1
        have hlp : pend.length = 1 := by rw [hpe]; rfl
        refine ⟨fun q1 => ⟨fun q2 => ⟨by first | decide | omega, ?_⟩, fun q3 => ⟨by first | decide | omega, ?_⟩⟩, fun q4 => ⟨by first | decide | omega, ?_⟩⟩
        try (any_goals (exfalso; first | omega | exact absurd trivial (by assumption)))
        refine c_La_addSign hL n4 (by simp; omega) (by omega) (fun v2 m1 m2 => ?_)
        have hq2 : v2 4 1 = q := (congrFun (m1 4 (by rcases hL with rfl | rfl | rfl | rfl | rfl <;> omega) (by rcases hL with rfl | rfl | rfl | rfl | rfl <;> omega)) 1).trans n3
        have hX2 := Fx_TP hL (Fx_tr n2 (Fx_L m1)) hX
        have hF2 := Fx_tr hF (Fx_tr n2 (Fx_L m1))
        have hW2 : LW v2 L (ts ++ (acc ++ t ++ pend)) := by rw [hpe, ← List.append_assoc, ← List.append_assoc]; exact m2
        refine ⟨by first | decide | omega, ?_⟩
        try (any_goals (exfalso; first | omega | exact absurd trivial (by assumption)))
        refine c_LR_takes ht hX2 hq2 (by omega) g2 (by omega) (fun c v3 s1 s2 => ?_) (fun c v3 s1 s2 => ?_)
        · rw [if_pos (by simp [isOr, c])] at hR
          have hlt := pC_lt (X := X) (p := q) (by omega)
          refine ⟨fun q1 => ⟨⟨by first | decide | omega, by first | decide | omega⟩, ?_⟩, fun q2 => ⟨by first | decide | omega, ?_⟩⟩
          try (any_goals (exfalso; first | omega | exact absurd trivial (by assumption)))
          exact LR_condition_2 ht hgd0 hgd1 hit0 hit1 hL hbf Ke Ko m (i := i + 1) (acc := acc ++ t ++ pend) (pend := [-124]) (by omega) (Fx_TP hL (Fx_4 s1) hX2) (Fx_tr hF2 (Fx_4 s1)) (LW_4 hL s1 hW2) s2 (by omega) (by omega) (by omega) (by omega) (by simp; omega) (fun r => by omega) (fun _ => rfl) (by rw [if_neg (fun r => by omega)]; rw [c] at hR; exact hR)
        · rw [if_neg (by simp [isOr, c])] at hR
          refine ⟨fun q1 => ⟨⟨by first | decide | omega, by first | decide | omega⟩, ?_⟩, fun q2 => ⟨by first | decide | omega, ?_⟩⟩
          try (any_goals (exfalso; first | omega | exact absurd trivial (by assumption)))
          exact Ko _ _ v3 hR (Fx_tr hF2 (Fx_4 s1)) s2 (LW_4 hL s1 hW2)
    · by_cases hi2 : i = 0
      · rw [if_pos ⟨by omega, hi2⟩] at hR
        have hi1 := hi2
        have hit0 := hit0 (by omega)
        have hbi : bf = 1 := by omega
        refine ⟨by first | decide | omega, by first | decide | omega, ⟨fun q1 => ⟨by first | decide | omega, ?_⟩, fun q2 => ⟨fun q3 => ⟨by first | decide | omega, ?_⟩, fun q4 => ⟨fun q5 => ⟨by first | decide | omega, ?_⟩, fun q6 => ⟨by first | decide | omega, ?_⟩⟩⟩⟩⟩
        try (any_goals (exfalso; first | omega | exact absurd trivial (by assumption)))
        refine hit0 L (ts ++ acc) pl v _ hL hX hW hp h0 h1 (by simp; omega) (fun e v1 n1 n2 n3 => ?_) (fun q t v1 n1 n2 n3 n4 => ?_)
        · rw [n1] at hR
          refine ⟨fun q1 => ⟨fun q2 => ⟨by first | decide | omega, ?_⟩, fun q3 => ⟨by first | decide | omega, ?_⟩⟩, fun q4 => ⟨by first | decide | omega, ?_⟩⟩
          try (any_goals (exfalso; first | omega | exact absurd trivial (by assumption)))
          exact Ke e v1 hR (Fx_tr hF n2) n3
        obtain ⟨g1, g2, g3⟩ := (hgd0 pl h0 h1).2 q t n1
        rw [n1] at hR
        simp only at hR
        rw [pTl_1 (fun _ h => (sep_or h).1) hgd1 (by omega) g2] at hR
        have hb := pS_b (X := X) q
        · skip
          have hpe := hp0 hi1
          refine ⟨fun q1 => ⟨fun q2 => ⟨by first | decide | omega, ?_⟩, fun q3 => ⟨by first | decide | omega, ?_⟩⟩, fun q4 => ⟨by first | decide | omega, ?_⟩⟩
          try (any_goals (exfalso; first | omega | exact absurd trivial (by assumption)))
          have hq2 := n3
          have hX2 := Fx_TP hL n2 hX
          have hF2 := Fx_tr hF n2
          have hW2 : LW v1 L (ts ++ (acc ++ t ++ pend)) := by rw [hpe, List.append_nil, ← List.append_assoc]; exact n4
          refine c_LR_takes ht hX2 hq2 (by omega) g2 (by omega) (fun c v3 s1 s2 => ?_) (fun c v3 s1 s2 => ?_)
          · rw [if_pos (by simp [isOr, c])] at hR
            have hlt := pC_lt (X := X) (p := q) (by omega)
            refine ⟨fun q1 => ⟨⟨by first | decide | omega, by first | decide | omega⟩, ?_⟩, fun q2 => ⟨by first | decide | omega, ?_⟩⟩
            try (any_goals (exfalso; first | omega | exact absurd trivial (by assumption)))
            exact LR_condition_2 ht hgd0 hgd1 (fun _ => hit0) hit1 hL hbf Ke Ko m (i := i + 1) (acc := acc ++ t ++ pend) (pend := [-124]) (by omega) (Fx_TP hL (Fx_4 s1) hX2) (Fx_tr hF2 (Fx_4 s1)) (LW_4 hL s1 hW2) s2 (by omega) (by omega) (by omega) (by omega) (by simp; omega) (fun r => by omega) (fun _ => rfl) (by rw [if_neg (fun r => by omega)]; rw [c] at hR; exact hR)
          · rw [if_neg (by simp [isOr, c])] at hR
            refine ⟨fun q1 => ⟨⟨by first | decide | omega, by first | decide | omega⟩, ?_⟩, fun q2 => ⟨by first | decide | omega, ?_⟩⟩
            try (any_goals (exfalso; first | omega | exact absurd trivial (by assumption)))
            exact Ko _ _ v3 hR (Fx_tr hF2 (Fx_4 s1)) s2 (LW_4 hL s1 hW2)
      · rw [if_neg (fun r => hi2 r.2)] at hR
        have hi1 := hi2
        refine ⟨by first | decide | omega, by first | decide | omega, ⟨fun q1 => ⟨by first | decide | omega, ?_⟩, fun q2 => ⟨fun q3 => ⟨by first | decide | omega, ?_⟩, fun q4 => ⟨fun q5 => ⟨by first | decide | omega, ?_⟩, fun q6 => ⟨by first | decide | omega, ?_⟩⟩⟩⟩⟩
        try (any_goals (exfalso; first | omega | exact absurd trivial (by assumption)))
        refine hit1 L (ts ++ acc) pl v _ hL hX hW hp h0 h1 (by simp; omega) (fun e v1 n1 n2 n3 => ?_) (fun q t v1 n1 n2 n3 n4 => ?_)
        · rw [n1] at hR
          refine ⟨fun q1 => ⟨fun q2 => ⟨by first | decide | omega, ?_⟩, fun q3 => ⟨by first | decide | omega, ?_⟩⟩, fun q4 => ⟨by first | decide | omega, ?_⟩⟩
          try (any_goals (exfalso; first | omega | exact absurd trivial (by assumption)))
          exact Ke e v1 hR (Fx_tr hF n2) n3
        obtain ⟨g1, g2, g3⟩ := (hgd1 pl h0 h1).2 q t n1
        rw [n1] at hR
        simp only at hR
        rw [pTl_1 (fun _ h => (sep_or h).1) hgd1 (by omega) g2] at hR
        have hb := pS_b (X := X) q
        · skip
          have hpe := hp1 hi1
          have hlp : pend.length = 1 := by rw [hpe]; rfl
          refine ⟨fun q1 => ⟨fun q2 => ⟨by first | decide | omega, ?_⟩, fun q3 => ⟨by first | decide | omega, ?_⟩⟩, fun q4 => ⟨by first | decide | omega, ?_⟩⟩
          try (any_goals (exfalso; first | omega | exact absurd trivial (by assumption)))
          refine c_La_addSign hL n4 (by simp; omega) (by omega) (fun v2 m1 m2 => ?_)
          have hq2 : v2 4 1 = q := (congrFun (m1 4 (by rcases hL with rfl | rfl | rfl | rfl | rfl <;> omega) (by rcases hL with rfl | rfl | rfl | rfl | rfl <;> omega)) 1).trans n3
          have hX2 := Fx_TP hL (Fx_tr n2 (Fx_L m1)) hX
          have hF2 := Fx_tr hF (Fx_tr n2 (Fx_L m1))
          have hW2 : LW v2 L (ts ++ (acc ++ t ++ pend)) := by rw [hpe, ← List.append_assoc, ← List.append_assoc]; exact m2
          refine ⟨by first | decide | omega, ?_⟩
          try (any_goals (exfalso; first | omega | exact absurd trivial (by assumption)))
          refine c_LR_takes ht hX2 hq2 (by omega) g2 (by omega) (fun c v3 s1 s2 => ?_) (fun c v3 s1 s2 => ?_)
          · rw [if_pos (by simp [isOr, c])] at hR
            have hlt := pC_lt (X := X) (p := q) (by omega)
            refine ⟨fun q1 => ⟨⟨by first | decide | omega, by first | decide | omega⟩, ?_⟩, fun q2 => ⟨by first | decide | omega, ?_⟩⟩
            try (any_goals (exfalso; first | omega | exact absurd trivial (by assumption)))
            exact LR_condition_2 ht hgd0 hgd1 hit0 hit1 hL hbf Ke Ko m (i := i + 1) (acc := acc ++ t ++ pend) (pend := [-124]) (by omega) (Fx_TP hL (Fx_4 s1) hX2) (Fx_tr hF2 (Fx_4 s1)) (LW_4 hL s1 hW2) s2 (by omega) (by omega) (by omega) (by omega) (by simp; omega) (fun r => by omega) (fun _ => rfl) (by rw [if_neg (fun r => by omega)]; rw [c] at hR; exact hR)
          · rw [if_neg (by simp [isOr, c])] at hR
            refine ⟨fun q1 => ⟨⟨by first | decide | omega, by first | decide | omega⟩, ?_⟩, fun q2 => ⟨by first | decide | omega, ?_⟩⟩
            try (any_goals (exfalso; first | omega | exact absurd trivial (by assumption)))
            exact Ko _ _ v3 hR (Fx_tr hF2 (Fx_4 s1)) s2 (LW_4 hL s1 hW2)
theorem c_LR_condition {X : zTp} {D : Nat} {j bf : Int} {it0 it : zPs} (hj : 0 ≤ j ∧ j ≤ 6) (ht : tOk X) (hgd0 : pGl X it0) (hgd1 : pGl X it) (hit0 : bf = 1 → LRc l G X (D + 2) h_LR_truth [(0, j), (0, 1)] it0) (hit1 : LRc l G X (D + 2) h_LR_truth [(0, j), (0, 0)] it) (hbf : bf = 0 ∨ bf = 1) : LRc l G X (D + 3) h_LR_condition [(0, j), (0, bf)] (if bf = 1 then pSep2 X isOr it0 it else pSep X isOr it) := by
  intro L ts p v Q hL hX hW hp h0 h1 hts Ke Ko
  obtain ⟨f1, f2, f3, f4, f5⟩ := zlo_f hL
  refine zC_at ok_LR_condition ck_LR_condition rfl rfl (sg_LR_condition_0 ?_)
  refine LR_condition_2 ht hgd0 hgd1 hit0 hit1 hL hbf Ke Ko ((X.2 - p).toNat + 1) (acc := []) (pend := []) (by omega) hX Fx_rf (by rw [List.append_nil]; exact hW) hp h0 h1 (by omega) (by omega) (by simp; exact hts) (fun _ => rfl) (fun r => absurd rfl r) ?_
  simp only [List.nil_append, List.append_nil]
  by_cases h : bf = 1
  · rw [if_pos h, if_pos ⟨h, trivial⟩]
    rfl
  · rw [if_neg h, if_neg (fun r => h r.1)]
    rfl
/-- from a comparison's sign on: the same at three places of unit -/
theorem c_LR_unitK {X : zTp} {k D : Nat} {j : Int} (hj : j = 6 - k) (hk : k ≤ 6) (ht : tOk X) (hsum : LRc l G X (D + 2) h_LR_sum [(0, j)] (pSumL X k)) (hu : ∀ k' : Nat, k = k' + 1 → LRc l G X (D + 2) h_LR_unit [(0, j + 1), (0, 0)] (pUc X k')) (hc : ∀ k' : Nat, k = k' + 1 → LRc l G X (D + 2) h_LR_condition [(0, j + 1), (0, 0)] (pCond X (pUc X k'))) : LRc l G X (D + 3) h_LR_unit [(0, j), (0, 0)] (pUc X k) := by
  intro L ts p v Q hL hX hW hp h0 h1 hts Ke Ko
  have hn1 := ht.1
  have hb := pS_b (X := X) p
  have hcn := pC_nn (p := p) ht h0
  have h9 : 9 ≤ L := by rcases hL with rfl | rfl | rfl | rfl | rfl <;> omega
  obtain ⟨f1, f2, f3, f4, f5⟩ := zlo_f hL
  have eU : pUc X k = pUnit X (pSumL X k) (match k with
    | 0 => none
    | k' + 1 => some (pUc X k')) := by cases k <;> rfl
  rw [eU] at Ke Ko
  unfold pUnit at Ke Ko
  refine zC_at ok_LR_unit ck_LR_unit rfl rfl (sg_LR_unit_0 ?_)
  refine ⟨by first | decide | omega, ?_⟩
  try (any_goals (exfalso; first | omega | exact absurd trivial (by assumption)))
  refine c_LR_sign ht hX hp h0 h1 (fun v1 s1 s2 => ?_)
  have hX1 := Fx_TP hL (Fx_4 s1) hX
  have hW1 := LW_4 hL s1 hW
  have hf : ∀ b : Int, b ≠ 4 → (zupd v1 4 1 (pS X p + 1)) b = v b := fun b q => (zup_a q).trans (s1 b q)
  simp only [s2]
  by_cases c1 : pC X p = 33
  · rw [if_pos c1] at Ke Ko
    have hlt := pC_lt (X := X) (p := p) (by omega)
    cases k with
    | zero =>
      refine ⟨fun q1 => ⟨fun q2 => ⟨by first | decide | omega, ?_⟩, fun q3 => ⟨by first | decide | omega, ?_⟩⟩, fun q4 => ⟨fun q5 => ⟨fun q6 => ⟨by first | decide | omega, ⟨by first | decide | omega, by first | decide | omega⟩, by first | decide | omega, ⟨fun q7 => ⟨⟨by first | decide | omega, by first | decide | omega⟩, by first | decide | omega, ?_⟩, fun q8 => ⟨⟨by first | decide | omega, by first | decide | omega⟩, by first | decide | omega, ?_⟩⟩⟩, fun q9 => ⟨by first | decide | omega, ?_⟩⟩, fun q10 => ⟨fun q11 => ⟨fun q12 => ⟨by first | decide | omega, ?_⟩, fun q13 => ⟨by first | decide | omega, ?_⟩⟩, fun q14 => ⟨fun q15 => ⟨by first | decide | omega, ⟨by first | decide | omega, by first | decide | omega⟩, by first | decide | omega, ⟨fun q16 => ⟨⟨by first | decide | omega, by first | decide | omega⟩, by first | decide | omega, ?_⟩, fun q17 => ⟨⟨by first | decide | omega, by first | decide | omega⟩, by first | decide | omega, ?_⟩⟩⟩, fun q18 => ⟨by first | decide | omega, ?_⟩⟩⟩⟩⟩
      try (any_goals (exfalso; first | omega | exact absurd trivial (by assumption)))
      exact Ke _ v1 rfl (Fx_4 s1) s2
    | succ k =>
      have hgd := (pUc_gd (X := X) k) (pS X p + 1) (by omega) (by omega)
      refine ⟨fun q1 => ⟨fun q2 => ⟨by first | decide | omega, ?_⟩, fun q3 => ⟨by first | decide | omega, ?_⟩⟩, fun q4 => ⟨fun q5 => ⟨fun q6 => ⟨by first | decide | omega, ⟨by first | decide | omega, by first | decide | omega⟩, by first | decide | omega, ⟨fun q7 => ⟨⟨by first | decide | omega, by first | decide | omega⟩, by first | decide | omega, ?_⟩, fun q8 => ⟨⟨by first | decide | omega, by first | decide | omega⟩, by first | decide | omega, ?_⟩⟩⟩, fun q9 => ⟨by first | decide | omega, ?_⟩⟩, fun q10 => ⟨fun q11 => ⟨fun q12 => ⟨by first | decide | omega, ?_⟩, fun q13 => ⟨by first | decide | omega, ?_⟩⟩, fun q14 => ⟨fun q15 => ⟨by first | decide | omega, ⟨by first | decide | omega, by first | decide | omega⟩, by first | decide | omega, ⟨fun q16 => ⟨⟨by first | decide | omega, by first | decide | omega⟩, by first | decide | omega, ?_⟩, fun q17 => ⟨⟨by first | decide | omega, by first | decide | omega⟩, by first | decide | omega, ?_⟩⟩⟩, fun q18 => ⟨by first | decide | omega, ?_⟩⟩⟩⟩⟩
      try (any_goals (exfalso; first | omega | exact absurd trivial (by assumption)))
      refine hu k rfl L ts (pS X p + 1) _ _ hL (Fx_TP hL (Fx_4 hf) hX) (LW_4 hL hf hW) (zup_e rfl rfl) (by omega) (by omega) (by omega) (fun e v2 n1 n2 n3 => ?_) (fun q t v2 n1 n2 n3 n4 => ?_)
      · simp only [n1] at Ke
        refine ⟨fun q1 => ⟨by first | decide | omega, ?_⟩, fun q2 => ⟨by first | decide | omega, ?_⟩⟩
        try (any_goals (exfalso; first | omega | exact absurd trivial (by assumption)))
        exact Ke e v2 rfl (Fx_tr (Fx_4 hf) n2) n3
      · obtain ⟨g1, g2, g3, -⟩ := hgd.2 q t n1
        simp only [n1] at Ko
        refine ⟨fun q1 => ⟨by first | decide | omega, ?_⟩, fun q2 => ⟨by first | decide | omega, ?_⟩⟩
        try (any_goals (exfalso; first | omega | exact absurd trivial (by assumption)))
        refine c_La_addSign hL n4 (by simp; omega) (by omega) (fun v3 m1 m2 => ?_)
        refine ⟨by first | decide | omega, ?_⟩
        refine Ko q _ v3 rfl (Fx_tr (Fx_4 hf) (Fx_tr n2 (Fx_L m1))) ?_ (by rw [← List.append_assoc]; exact m2)
        rw [m1 4 (by omega) (by omega)]
        exact n3
  rw [if_neg c1] at Ke Ko
  by_cases c2 : pC X p = 40
  · rw [if_pos c2] at Ke Ko
    have hlt := pC_lt (X := X) (p := p) (by omega)
    cases k with
    | zero =>
      refine ⟨fun q1 => ⟨fun q2 => ⟨by first | decide | omega, ?_⟩, fun q3 => ⟨by first | decide | omega, ?_⟩⟩, fun q4 => ⟨fun q5 => ⟨fun q6 => ⟨by first | decide | omega, ⟨by first | decide | omega, by first | decide | omega⟩, by first | decide | omega, ⟨fun q7 => ⟨⟨by first | decide | omega, by first | decide | omega⟩, by first | decide | omega, ?_⟩, fun q8 => ⟨⟨by first | decide | omega, by first | decide | omega⟩, by first | decide | omega, ?_⟩⟩⟩, fun q9 => ⟨by first | decide | omega, ?_⟩⟩, fun q10 => ⟨fun q11 => ⟨fun q12 => ⟨by first | decide | omega, ?_⟩, fun q13 => ⟨by first | decide | omega, ?_⟩⟩, fun q14 => ⟨fun q15 => ⟨by first | decide | omega, ⟨by first | decide | omega, by first | decide | omega⟩, by first | decide | omega, ⟨fun q16 => ⟨⟨by first | decide | omega, by first | decide | omega⟩, by first | decide | omega, ?_⟩, fun q17 => ⟨⟨by first | decide | omega, by first | decide | omega⟩, by first | decide | omega, ?_⟩⟩⟩, fun q18 => ⟨by first | decide | omega, ?_⟩⟩⟩⟩⟩
      try (any_goals (exfalso; first | omega | exact absurd trivial (by assumption)))
      exact Ke _ v1 rfl (Fx_4 s1) s2
    | succ k =>
      have hgd := (pCond_gd (pUc_gd (X := X) k)) (pS X p + 1) (by omega) (by omega)
      refine ⟨fun q1 => ⟨fun q2 => ⟨by first | decide | omega, ?_⟩, fun q3 => ⟨by first | decide | omega, ?_⟩⟩, fun q4 => ⟨fun q5 => ⟨fun q6 => ⟨by first | decide | omega, ⟨by first | decide | omega, by first | decide | omega⟩, by first | decide | omega, ⟨fun q7 => ⟨⟨by first | decide | omega, by first | decide | omega⟩, by first | decide | omega, ?_⟩, fun q8 => ⟨⟨by first | decide | omega, by first | decide | omega⟩, by first | decide | omega, ?_⟩⟩⟩, fun q9 => ⟨by first | decide | omega, ?_⟩⟩, fun q10 => ⟨fun q11 => ⟨fun q12 => ⟨by first | decide | omega, ?_⟩, fun q13 => ⟨by first | decide | omega, ?_⟩⟩, fun q14 => ⟨fun q15 => ⟨by first | decide | omega, ⟨by first | decide | omega, by first | decide | omega⟩, by first | decide | omega, ⟨fun q16 => ⟨⟨by first | decide | omega, by first | decide | omega⟩, by first | decide | omega, ?_⟩, fun q17 => ⟨⟨by first | decide | omega, by first | decide | omega⟩, by first | decide | omega, ?_⟩⟩⟩, fun q18 => ⟨by first | decide | omega, ?_⟩⟩⟩⟩⟩
      try (any_goals (exfalso; first | omega | exact absurd trivial (by assumption)))
      refine hc k rfl L ts (pS X p + 1) _ _ hL (Fx_TP hL (Fx_4 hf) hX) (LW_4 hL hf hW) (zup_e rfl rfl) (by omega) (by omega) (by omega) (fun e v2 n1 n2 n3 => ?_) (fun q t v2 n1 n2 n3 n4 => ?_)
      · simp only [n1] at Ke
        refine ⟨fun q1 => ⟨by first | decide | omega, ?_⟩, fun q2 => ⟨by first | decide | omega, ?_⟩⟩
        try (any_goals (exfalso; first | omega | exact absurd trivial (by assumption)))
        exact Ke e v2 rfl (Fx_tr (Fx_4 hf) n2) n3
      · obtain ⟨g1, g2, g3, -⟩ := hgd.2 q t n1
        simp only [n1] at Ke Ko
        have hX2 := Fx_TP hL (Fx_tr (Fx_4 hf) n2) hX
        refine ⟨fun q1 => ⟨by first | decide | omega, ?_⟩, fun q2 => ⟨by first | decide | omega, ?_⟩⟩
        try (any_goals (exfalso; first | omega | exact absurd trivial (by assumption)))
        refine c_LR_takes ht hX2 n3 (by omega) g2 (by omega) (fun c v3 t1 t2 => ?_) (fun c v3 t1 t2 => ?_)
        · rw [if_pos c] at Ko
          refine ⟨fun q1 => ⟨by first | decide | omega, ?_⟩, fun q2 => ⟨by first | decide | omega, ?_⟩⟩
          try (any_goals (exfalso; first | omega | exact absurd trivial (by assumption)))
          exact Ko _ _ v3 rfl (Fx_tr (Fx_4 hf) (Fx_tr n2 (Fx_4 t1))) t2 (LW_4 hL t1 n4)
        · rw [if_neg c] at Ke
          refine ⟨fun q1 => ⟨by first | decide | omega, ?_⟩, fun q2 => ⟨by first | decide | omega, ?_⟩⟩
          try (any_goals (exfalso; first | omega | exact absurd trivial (by assumption)))
          exact Ke _ v3 rfl (Fx_tr (Fx_4 hf) (Fx_tr n2 (Fx_4 t1))) t2
  rw [if_neg c2] at Ke Ko
  refine ⟨fun q1 => ⟨fun q2 => ⟨by first | decide | omega, ?_⟩, fun q3 => ⟨by first | decide | omega, ?_⟩⟩, fun q4 => ⟨fun q5 => ⟨fun q6 => ⟨by first | decide | omega, ⟨by first | decide | omega, by first | decide | omega⟩, by first | decide | omega, ⟨fun q7 => ⟨⟨by first | decide | omega, by first | decide | omega⟩, by first | decide | omega, ?_⟩, fun q8 => ⟨⟨by first | decide | omega, by first | decide | omega⟩, by first | decide | omega, ?_⟩⟩⟩, fun q9 => ⟨by first | decide | omega, ?_⟩⟩, fun q10 => ⟨fun q11 => ⟨fun q12 => ⟨by first | decide | omega, ?_⟩, fun q13 => ⟨by first | decide | omega, ?_⟩⟩, fun q14 => ⟨fun q15 => ⟨by first | decide | omega, ⟨by first | decide | omega, by first | decide | omega⟩, by first | decide | omega, ⟨fun q16 => ⟨⟨by first | decide | omega, by first | decide | omega⟩, by first | decide | omega, ?_⟩, fun q17 => ⟨⟨by first | decide | omega, by first | decide | omega⟩, by first | decide | omega, ?_⟩⟩⟩, fun q18 => ⟨by first | decide | omega, ?_⟩⟩⟩⟩⟩
  try (any_goals (exfalso; first | omega | exact absurd trivial (by assumption)))
  have hgd := (pSumL_gd (X := X) (k := k)) (pS X p) (by omega) (by omega)
  refine hsum L ts (pS X p) _ _ hL hX1 hW1 s2 (by omega) (by omega) (by omega) (fun e v2 n1 n2 n3 => ?_) (fun q t v2 n1 n2 n3 n4 => ?_)
  · simp only [n1] at Ke
    refine ⟨fun q1 => ⟨by first | decide | omega, ?_⟩, fun q2 => ⟨by first | decide | omega, ?_⟩⟩
    try (any_goals (exfalso; first | omega | exact absurd trivial (by assumption)))
    exact Ke e v2 rfl (Fx_tr (Fx_4 s1) n2) n3
  · obtain ⟨g1, g2, g3, -⟩ := hgd.2 q t n1
    simp only [n1] at Ke Ko
    have hX2 := Fx_TP hL n2 hX1
    have hF2 := Fx_tr (Fx_4 s1) n2
    refine ⟨fun q1 => ⟨by first | decide | omega, ?_⟩, fun q2 => ⟨by first | decide | omega, ?_⟩⟩
    try (any_goals (exfalso; first | omega | exact absurd trivial (by assumption)))
    have hb := pS_b (X := X) q
    refine c_LR_sign ht hX2 n3 (by omega) g2 (fun v3 u1 u2 => ?_)
    have hX3 := Fx_TP hL (Fx_4 u1) hX2
    have hf3 : ∀ b : Int, b ≠ 4 → (zupd v3 4 1 (pS X q + 1)) b = v2 b := fun b r => (zup_a r).trans (u1 b r)
    refine c_LR_compares ?_
    unfold pCmp at Ke Ko
    simp only [u2]
    by_cases cc : isCmp (pC X q) = true
    · rw [if_pos cc] at Ke Ko
      have cc' := isCmp_iff.mp cc
      have hlt := pC_lt (X := X) (p := q) (by omega)
      have hgd2 := (pSumL_gd (X := X) (k := k)) (pS X q + 1) (by omega) (by omega)
      rw [if_pos cc]
      refine ⟨fun q1 => ⟨by first | decide | omega, ⟨by first | decide | omega, by first | decide | omega⟩, by first | decide | omega, by first | decide | omega, ?_⟩, fun q2 => ⟨by first | decide | omega, ?_⟩⟩
      try (any_goals (exfalso; first | omega | exact absurd trivial (by assumption)))
      refine hsum L (ts ++ t) (pS X q + 1) _ _ hL (Fx_TP hL (Fx_4 hf3) hX2) (LW_4 hL hf3 n4) (zup_e rfl rfl) (by omega) (by omega) (by simp; omega) (fun e v4 w1 w2 w3 => ?_) (fun r u v4 w1 w2 w3 w4 => ?_)
      · simp only [w1] at Ke
        refine ⟨fun q1 => ⟨by first | decide | omega, ?_⟩, fun q2 => ⟨by first | decide | omega, ?_⟩⟩
        try (any_goals (exfalso; first | omega | exact absurd trivial (by assumption)))
        exact Ke e v4 rfl (Fx_tr hF2 (Fx_tr (Fx_4 hf3) w2)) w3
      · obtain ⟨y1, y2, y3, -⟩ := hgd2.2 r u w1
        simp only [w1] at Ko
        refine ⟨fun q1 => ⟨by first | decide | omega, ?_⟩, fun q2 => ⟨by first | decide | omega, ?_⟩⟩
        try (any_goals (exfalso; first | omega | exact absurd trivial (by assumption)))
        refine c_La_addSign hL w4 (by simp; omega) (by omega) (fun v5 m1 m2 => ?_)
        refine ⟨by first | decide | omega, ?_⟩
        refine Ko r _ v5 rfl (Fx_tr hF2 (Fx_tr (Fx_4 hf3) (Fx_tr w2 (Fx_L m1)))) ?_ (by rw [← List.append_assoc, ← List.append_assoc]; exact m2)
        rw [m1 4 (by omega) (by omega)]
        exact w3
    · rw [if_neg cc] at Ke
      rw [if_neg cc]
      refine ⟨fun q1 => ⟨by first | decide | omega, ⟨by first | decide | omega, by first | decide | omega⟩, by first | decide | omega, by first | decide | omega, ?_⟩, fun q2 => ⟨by first | decide | omega, ?_⟩⟩
      try (any_goals (exfalso; first | omega | exact absurd trivial (by assumption)))
      exact Ke _ v3 rfl (Fx_tr hF2 (Fx_4 u1)) u2
theorem c_LR_unitB {X : zTp} {k D : Nat} {j : Int} (hj : j = 6 - k) (hk : k ≤ 6) (ht : tOk X) (hsum : LRc l G X (D + 2) h_LR_sum [(0, j)] (pSumL X k)) : LRc l G X (D + 3) h_LR_unit [(0, j), (0, 1)] (pUnitB X (pSumL X k)) := by
  intro L ts p v Q hL hX hW hp h0 h1 hts Ke Ko
  have hn1 := ht.1
  have hb0 := pS_b (X := X) p
  have h9 : 9 ≤ L := by rcases hL with rfl | rfl | rfl | rfl | rfl <;> omega
  obtain ⟨f1, f2, f3, f4, f5⟩ := zlo_f hL
  unfold pUnitB at Ke Ko
  refine zC_at ok_LR_unit ck_LR_unit rfl rfl (sg_LR_unit_0 ?_)
  refine ⟨by first | decide | omega, ?_⟩
  try (any_goals (exfalso; first | omega | exact absurd trivial (by assumption)))
  refine c_LR_sign ht hX hp h0 h1 (fun v1 s1 s2 => ?_)
  have n3 := s2
  have hX2 := Fx_TP hL (Fx_4 s1) hX
  have hF2 : Fx L v v1 := Fx_4 s1
  have n4 : LW v1 L (ts ++ []) := by rw [List.append_nil]; exact LW_4 hL s1 hW
  have hpp : pCmp X (pSumL X k) p [] = pCmp X (pSumL X k) (pS X p) [] := by
    unfold pCmp
    rw [pC_i, pS_i]
  rw [hpp] at Ke Ko
  generalize hq : pS X p = q at n3 Ke Ko hb0
  generalize ht0 : ([] : List Int) = t at n4 Ke Ko
  have g2 : q ≤ X.2 := by omega
  have g3 : (ts.length : Int) + t.length ≤ q := by rw [← ht0]; simp; omega
  have g1 : 0 ≤ q := by omega
  refine ⟨fun q1 => ⟨fun q2 => ⟨by first | decide | omega, ?_⟩, fun q3 => ⟨by first | decide | omega, ?_⟩⟩, fun q4 => ⟨fun q5 => ⟨fun q6 => ⟨by first | decide | omega, ⟨by first | decide | omega, by first | decide | omega⟩, by first | decide | omega, ⟨fun q7 => ⟨⟨by first | decide | omega, by first | decide | omega⟩, by first | decide | omega, ?_⟩, fun q8 => ⟨⟨by first | decide | omega, by first | decide | omega⟩, by first | decide | omega, ?_⟩⟩⟩, fun q9 => ⟨by first | decide | omega, ?_⟩⟩, fun q10 => ⟨fun q11 => ⟨fun q12 => ⟨by first | decide | omega, ?_⟩, fun q13 => ⟨by first | decide | omega, ?_⟩⟩, fun q14 => ⟨fun q15 => ⟨by first | decide | omega, ⟨by first | decide | omega, by first | decide | omega⟩, by first | decide | omega, ⟨fun q16 => ⟨⟨by first | decide | omega, by first | decide | omega⟩, by first | decide | omega, ?_⟩, fun q17 => ⟨⟨by first | decide | omega, by first | decide | omega⟩, by first | decide | omega, ?_⟩⟩⟩, fun q18 => ⟨by first | decide | omega, ?_⟩⟩⟩⟩⟩
  try (any_goals (exfalso; first | omega | exact absurd trivial (by assumption)))
  have hb := pS_b (X := X) q
  refine c_LR_sign ht hX2 n3 (by omega) g2 (fun v3 u1 u2 => ?_)
  have hX3 := Fx_TP hL (Fx_4 u1) hX2
  have hf3 : ∀ b : Int, b ≠ 4 → (zupd v3 4 1 (pS X q + 1)) b = v1 b := fun b r => (zup_a r).trans (u1 b r)
  refine c_LR_compares ?_
  unfold pCmp at Ke Ko
  simp only [u2]
  by_cases cc : isCmp (pC X q) = true
  · rw [if_pos cc] at Ke Ko
    have cc' := isCmp_iff.mp cc
    have hlt := pC_lt (X := X) (p := q) (by omega)
    have hgd2 := (pSumL_gd (X := X) (k := k)) (pS X q + 1) (by omega) (by omega)
    rw [if_pos cc]
    refine ⟨fun q1 => ⟨by first | decide | omega, ⟨by first | decide | omega, by first | decide | omega⟩, by first | decide | omega, by first | decide | omega, ?_⟩, fun q2 => ⟨by first | decide | omega, ?_⟩⟩
    try (any_goals (exfalso; first | omega | exact absurd trivial (by assumption)))
    refine hsum L (ts ++ t) (pS X q + 1) _ _ hL (Fx_TP hL (Fx_4 hf3) hX2) (LW_4 hL hf3 n4) (zup_e rfl rfl) (by omega) (by omega) (by simp; omega) (fun e v4 w1 w2 w3 => ?_) (fun r u v4 w1 w2 w3 w4 => ?_)
    · simp only [w1] at Ke
      refine ⟨fun q1 => ⟨by first | decide | omega, ?_⟩, fun q2 => ⟨by first | decide | omega, ?_⟩⟩
      try (any_goals (exfalso; first | omega | exact absurd trivial (by assumption)))
      exact Ke e v4 rfl (Fx_tr hF2 (Fx_tr (Fx_4 hf3) w2)) w3
    · obtain ⟨y1, y2, y3, -⟩ := hgd2.2 r u w1
      simp only [w1] at Ko
      refine ⟨fun q1 => ⟨by first | decide | omega, ?_⟩, fun q2 => ⟨by first | decide | omega, ?_⟩⟩
      try (any_goals (exfalso; first | omega | exact absurd trivial (by assumption)))
      refine c_La_addSign hL w4 (by simp; omega) (by omega) (fun v5 m1 m2 => ?_)
      refine ⟨by first | decide | omega, ?_⟩
      refine Ko r _ v5 rfl (Fx_tr hF2 (Fx_tr (Fx_4 hf3) (Fx_tr w2 (Fx_L m1)))) ?_ (by rw [← List.append_assoc, ← List.append_assoc]; exact m2)
      rw [m1 4 (by omega) (by omega)]
      exact w3
  · rw [if_neg cc] at Ke
    rw [if_neg cc]
    refine ⟨fun q1 => ⟨by first | decide | omega, ⟨by first | decide | omega, by first | decide | omega⟩, by first | decide | omega, by first | decide | omega, ?_⟩, fun q2 => ⟨by first | decide | omega, ?_⟩⟩
    try (any_goals (exfalso; first | omega | exact absurd trivial (by assumption)))
    exact Ke _ v3 rfl (Fx_tr hF2 (Fx_4 u1)) u2
theorem pStar_gl {X : zTp} {sep : Int → Bool} {item : zPs} {p0 : Int} (hs : ∀ k : Int, sep k = true → 0 ≤ k) (hi : pGl X item) : ∀ (f : Nat) (p : Int) (acc : List Int), 0 ≤ p0 → p0 < p → p ≤ X.2 → X.2 - p < f → (acc.length : Int) ≤ p - p0 →
    (∀ e, pStar X sep item f p acc = .error e → p ≤ e ∧ e ≤ X.2) ∧ (∀ q t, pStar X sep item f p acc = .ok (q, t) → p ≤ q ∧ q ≤ X.2 ∧ (t.length : Int) ≤ q - p0)
  | 0, p, acc, h0, h1, h2, h3, h4 => by omega
  | f + 1, p, acc, h0, h1, h2, h3, h4 => by
    have hb := pS_b (X := X) p
    unfold pStar
    split
    · rename_i hk
      have hlt := pC_lt (hs _ hk)
      obtain ⟨i1, i2⟩ := hi (pS X p + 1) (by omega) (by omega)
      split
      · rename_i e he
        have := i1 e he
        exact ⟨fun e' h => by cases h; omega, fun q t h => by cases h⟩
      · rename_i q t he
        obtain ⟨g1, g2, g3⟩ := i2 q t he
        obtain ⟨r1, r2⟩ := pStar_gl hs hi f q (acc ++ t ++ [-(pC X p)]) h0 (by omega) g2 (by omega) (by simp; omega)
        refine ⟨fun e h => ?_, fun q' t' h => ?_⟩
        · have := r1 e h
          omega
        · have := r2 q' t' h
          exact ⟨by omega, this.2⟩
    · refine ⟨fun e h => (by cases h), fun q t h => ?_⟩
      cases h
      exact ⟨by omega, by omega, by omega⟩
theorem pSep2_gl {X : zTp} {sep : Int → Bool} {item0 item : zPs} (hs : ∀ k : Int, sep k = true → 0 ≤ k) (h0 : pGl X item0) (hi : pGl X item) : pGl X (pSep2 X sep item0 item) := by
  intro p p0 p1
  obtain ⟨i1, i2⟩ := h0 p p0 p1
  unfold pSep2
  split
  · rename_i e he
    have := i1 e he
    exact ⟨fun e' h => by cases h; omega, fun q t h => by cases h⟩
  · rename_i q t he
    obtain ⟨g1, g2, g3⟩ := i2 q t he
    obtain ⟨r1, r2⟩ := pStar_gl hs hi ((X.2 - q).toNat + 1) q t p0 g1 g2 (by omega) g3
    refine ⟨fun e h => ?_, fun q' t' h => ?_⟩
    · have := r1 e h
      omega
    · have := r2 q' t' h
      exact ⟨by omega, this.2⟩
theorem pUnitB_gl {X : zTp} {k : Nat} : pGl X (pUnitB X (pSumL X k)) := by
  intro p h0 h1
  have hb := pS_b (X := X) p
  unfold pUnitB pCmp
  split
  · rename_i hk
    have hk' := isCmp_iff.mp hk
    have hlt := pC_lt (X := X) (p := p) (by omega)
    obtain ⟨i1, i2⟩ := pSumL_gd (X := X) (k := k) (pS X p + 1) (by omega) (by omega)
    split
    · rename_i e he
      have := i1 e he
      exact ⟨fun e' h => by cases h; omega, fun q t h => by cases h⟩
    · rename_i r u he
      obtain ⟨g1, g2, g3, g4⟩ := i2 r u he
      refine ⟨fun e h => (by cases h), fun q' t' h => ?_⟩
      cases h
      exact ⟨by omega, by omega, by simp; omega⟩
  · exact ⟨fun e' h => by cases h; omega, fun q t h => by cases h⟩
-- all depths of nesting
theorem c_LR_deep {X : zTp} (ht : tOk X) : ∀ (k d : Nat), k ≤ 6 → LRc l G X (d + 3 * k + 6) h_LR_unit [(0, 6 - (k : Int)), (0, 0)] (pUc X k) ∧ LRc l G X (d + 3 * k + 8) h_LR_condition [(0, 6 - (k : Int)), (0, 0)] (pCond X (pUc X k))
  | k, d, hk => by
    have hs := c_LR_sumK (l := l) (G := G) (X := X) ht k d hk
    have U : LRc l G X (d + 3 * k + 6) h_LR_unit [(0, 6 - (k : Int)), (0, 0)] (pUc X k) := by
      refine c_LR_unitK (D := d + 3 * k + 3) rfl hk ht hs (fun k' e => ?_) (fun k' e => ?_)
      · subst e
        have h := (c_LR_deep ht k' (d + 2) (by omega)).1
        have ej : (6 - ((k' + 1 : Nat) : Int)) + 1 = 6 - (k' : Int) := by omega
        have ed : d + 2 + 3 * k' + 6 = d + 3 * (k' + 1) + 3 + 2 := by omega
        rw [ej]
        rw [ed] at h
        exact h
      · subst e
        have h := (c_LR_deep ht k' d (by omega)).2
        have ej : (6 - ((k' + 1 : Nat) : Int)) + 1 = 6 - (k' : Int) := by omega
        have ed : d + 3 * k' + 8 = d + 3 * (k' + 1) + 3 + 2 := by omega
        rw [ej]
        rw [ed] at h
        exact h
    refine ⟨U, ?_⟩
    have T := c_LR_truth (l := l) (G := G) (X := X) (D := d + 3 * k + 4) (j := 6 - (k : Int)) (bf := 0) (it0 := pUc X k) (it := pUc X k) (by omega) ht (pGd_l (pUc_gd k)) (pGd_l (pUc_gd k)) (fun e => absurd e (by omega)) U (Or.inl rfl)
    rw [if_neg (by omega)] at T
    have C := c_LR_condition (l := l) (G := G) (X := X) (D := d + 3 * k + 5) (j := 6 - (k : Int)) (bf := 0) (it0 := pTruth X (pUc X k)) (it := pTruth X (pUc X k)) (by omega) ht (pGd_l (pSep_gd (fun _ h => sep_and h) (pUc_gd k))) (pGd_l (pSep_gd (fun _ h => sep_and h) (pUc_gd k))) (fun e => absurd e (by omega)) T (Or.inl rfl)
    rw [if_neg (by omega)] at C
    exact C
/-- the condition that a sum has begun -/
def pCondB (X : zTp) : zPs := pSep2 X isOr (pSep2 X isAnd (pUnitB X (pSumL X 6)) (pUc X 6)) (pTruth X (pUc X 6))
theorem c_LR_condB {X : zTp} (ht : tOk X) : LRc l G X (d + 26) h_LR_condition [(0, 0), (0, 1)] (pCondB X) := by
  have hs := c_LR_sumK (l := l) (G := G) (X := X) ht 6 d (by omega)
  have U := (c_LR_deep (l := l) (G := G) (X := X) ht 6 d (by omega)).1
  have UB := c_LR_unitB (D := d + 3 * 6 + 3) (j := 6 - ((6 : Nat) : Int)) rfl (by omega) ht hs
  have u2 := pGd_l (pUc_gd (X := X) 6)
  have t2 := pGd_l (pSep_gd (fun _ h => sep_and h) (pUc_gd (X := X) 6))
  have TB := c_LR_truth (l := l) (G := G) (X := X) (D := d + 3 * 6 + 4) (j := 6 - ((6 : Nat) : Int)) (bf := 1) (by decide) ht pUnitB_gl u2 (fun _ => UB) U (Or.inr rfl)
  have T := c_LR_truth (l := l) (G := G) (X := X) (D := d + 3 * 6 + 4) (j := 6 - ((6 : Nat) : Int)) (bf := 0) (it0 := pUc X 6) (by decide) ht u2 u2 (fun e => absurd e (by omega)) U (Or.inl rfl)
  rw [if_pos rfl] at TB
  rw [if_neg (by omega)] at T
  have C := c_LR_condition (l := l) (G := G) (X := X) (D := d + 3 * 6 + 5) (j := 6 - ((6 : Nat) : Int)) (bf := 1) (by decide) ht (pSep2_gl (fun _ h => (sep_and h).1) pUnitB_gl u2) t2 (fun _ => TB) T (Or.inr rfl)
  rw [if_pos rfl] at C
  exact C
theorem c_LR_cond0 {X : zTp} (ht : tOk X) : LRc l G X (d + 26) h_LR_condition [(0, 0), (0, 0)] (pCond X (pUc X 6)) := (c_LR_deep (l := l) (G := G) (X := X) ht 6 d (by omega)).2
theorem c_LR_sum0 {X : zTp} (ht : tOk X) : LRc l G X (d + 26) h_LR_sum [(0, 0)] (pSumL X 6) := c_LR_sumK (l := l) (G := G) (X := X) ht 6 (d + 3) (by omega)
theorem pBody_B {X : zTp} {q : Int} {t : List Int} {q0 : Int} (hq : q0 = q) : ((match pCmp X (pSumL X 6) q t with
      | .error e => .error e
      | .ok (r, t1) => match pTl X isAnd (pUc X 6) r t1 with
        | .error e => .error e
        | .ok (r2, t2) => match pTl X isOr (pTruth X (pUc X 6)) r2 t2 with
          | .error e => .error e
          | .ok (r3, t3) => pQu X r3 t3) : zPx zCl) = (match pCondB X q0 with
      | .error e => .error e
      | .ok (r, u) => pQu X r (t ++ u)) := by
  subst hq
  rw [pCmp_nil]
  unfold pCondB pSep2 pUnitB
  cases h1 : pCmp X (pSumL X 6) q0 [] with
  | error e => rfl
  | ok x1 =>
    obtain ⟨r, u⟩ := x1
    simp only
    rw [pTl_acc]
    cases h2 : pTl X isAnd (pUc X 6) r u with
    | error e => rfl
    | ok x2 =>
      obtain ⟨r2, u2⟩ := x2
      simp only
      rw [pTl_acc]
      cases h3 : pTl X isOr (pTruth X (pUc X 6)) r2 u2 with
      | error e => rfl
      | ok x3 => rfl
end
