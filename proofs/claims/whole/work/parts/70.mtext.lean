/-! THE REFERENCE: fault, text -/
section
variable {l : Launch} {G : zG} {d : Nat} {v : zH} {Q : Int → zH → Prop}
/-- no more clauses: what stands there, and whether the wall does -/
theorem rlm_0 {X : zTp} {p : Int} {D : zDf} {R : Except Int zDf} {v0 : zH} {QX : Nat → zH → Prop} (ht : tOk X) (hX : TM v X) (hF : FW v0 v) (hD : pC X p = -1 → DM v D ∧ dOk D) (h3 : v 77 3 = pS X p) (hw : v 77 4 = -1) (h0 : 0 ≤ p) (h1 : p ≤ X.2) (hR : R = if pC X p = -1 ∧ dSt D = true then .ok D else .error (pS X p))
    (Ke : ∀ (e : Int) (v' : zH), R = .error e → FW v0 v' → Q e v') (Ko : ∀ (E : zDf) (v' : zH), R = .ok E → FW v0 v' → DM v' E → Q (-1) v') : zJ l G 1 (d + 6) h_M_readWall k_M_readWall 115 Q QX 20 [(2, 77), (0, 0)] [] v 115 := by
  have hn := ht.1
  have hb := pS_b (X := X) p
  refine zgo ck_M_readWall 300 20 _ _ _ _ rfl (sg_M_readWall_20 ?_)
  try simp (disch := omega) only [zup_e, zup_ak, zup_j, Int.zero_add, Int.reduceAdd, mz78, mz79, mz80, mz81, mz82, mz83, mz84, mz85, mz86, mz87, mz88, mz89, mz90, mz91, mz92, mz93, mz94, mz95, mz96, mz97, mz98, mz99, mz100, mz101, mz102, mz103, mz104, mz105, mz106, mz107, mz108, mz109, mz110, mz111, mz112, mz113, hw]
  refine ⟨fun q1 => ⟨by first | decide | omega | contradiction | exact absurd trivial (by assumption), ⟨fun q2 => ⟨by first | decide | omega | contradiction | exact absurd trivial (by assumption), ?_⟩, fun q3 => ⟨by first | decide | omega | contradiction | exact absurd trivial (by assumption), ?_⟩⟩⟩, fun q4 => ⟨by first | decide | omega | contradiction | exact absurd trivial (by assumption), ⟨fun q5 => ⟨by first | decide | omega | contradiction | exact absurd trivial (by assumption), ⟨fun q6 => ⟨by first | decide | omega | contradiction | exact absurd trivial (by assumption), ?_⟩, fun q7 => ⟨by first | decide | omega | contradiction | exact absurd trivial (by assumption), ?_⟩⟩⟩, fun q8 => ⟨by first | decide | omega | contradiction | exact absurd trivial (by assumption), ?_⟩⟩⟩⟩
  try (any_goals (exfalso; first | omega | exact absurd trivial (by assumption)))
  refine c_M_look (p := pS X p) ht hX h3 (by omega) (by omega) (fun v1 f1 f2 => ?_)
  have w1 : v1 77 4 = -1 := by rw [f1.2 4 (by omega)]; exact hw
  have F1 : FW v0 v1 := FW_tr hF (FW_7 (F7_A f1))
  rw [pC_i]
  rw [pS_i] at f2
  by_cases hc : pC X p = -1
  · obtain ⟨hD, hd⟩ := hD hc
    refine ⟨fun q1 => ⟨by first | decide | omega | contradiction | exact absurd trivial (by assumption), ?_⟩, fun q2 => ⟨by first | decide | omega | contradiction | exact absurd trivial (by assumption), ?_⟩⟩
    try (any_goals (exfalso; first | omega | exact absurd trivial (by assumption)))
    refine c_M_isWhole hd (DM_7 (F7_A f1) hD) ?_
    by_cases hs : dSt D = true
    · rw [if_pos ⟨hc, hs⟩] at hR
      have fin := Ko D v1 hR F1 (DM_7 (F7_A f1) hD)
      have hs' : b01 (dSt D) = 1 := by unfold b01; rw [if_pos hs]
      rw [hs']
      rw [← w1] at fin
      refine ⟨fun q1 => ⟨by first | decide | omega | contradiction | exact absurd trivial (by assumption), ?_⟩, fun q2 => ⟨by first | decide | omega | contradiction | exact absurd trivial (by assumption), ?_⟩⟩
      try (any_goals (exfalso; first | omega | exact absurd trivial (by assumption)))
      exact fin
    · rw [if_neg (fun q => hs q.2)] at hR
      have fin := Ke _ (zupd v1 77 4 (pS X p)) hR (FW_tr F1 (FW_7 (F7_up (by omega))))
      have hs' : b01 (dSt D) = 0 := by unfold b01; rw [if_neg hs]
      rw [hs']
      refine ⟨fun q1 => ⟨by first | decide | omega | contradiction | exact absurd trivial (by assumption), ?_⟩, fun q2 => ⟨by first | decide | omega | contradiction | exact absurd trivial (by assumption), ?_⟩⟩
      try (any_goals (exfalso; first | omega | exact absurd trivial (by assumption)))
      refine c_M_bad w1 ?_
      rw [f2]
      show _
      simp only [zup_s]
      refine ⟨by first | decide | omega | contradiction | exact absurd trivial (by assumption), ?_⟩
      exact fin
  · rw [if_neg (fun q => hc q.1)] at hR
    have fin := Ke _ (zupd v1 77 4 (pS X p)) hR (FW_tr F1 (FW_7 (F7_up (by omega))))
    refine ⟨fun q1 => ⟨by first | decide | omega | contradiction | exact absurd trivial (by assumption), ?_⟩, fun q2 => ⟨by first | decide | omega | contradiction | exact absurd trivial (by assumption), ?_⟩⟩
    try (any_goals (exfalso; first | omega | exact absurd trivial (by assumption)))
    refine c_M_bad w1 ?_
    rw [f2]
    show _
    simp only [zup_s]
    refine ⟨by first | decide | omega | contradiction | exact absurd trivial (by assumption), ?_⟩
    exact fin
theorem rlm_20 {X : zTp} {v0 : zH} {R : Except Int zDf} {QX : Nat → zH → Prop} (ht : tOk X)
    (Ke : ∀ (e : Int) (v' : zH), R = .error e → FW v0 v' → Q e v') (Ko : ∀ (E : zDf) (v' : zH), R = .ok E → FW v0 v' → DM v' E → Q (-1) v') :
    ∀ (f : Nat) {v : zH} {p : Int} {D : zDf}, TM v X → FW v0 v → v 77 3 = p → v 77 4 = -1 → 0 ≤ p → p ≤ X.2 → X.2 - p < f → DM v D → dOk D → R = pWlF X f p D →
    zJ l G 1 (d + 6) h_M_readWall k_M_readWall 115 Q QX 20 [(2, 77), (0, 1)] [] v 115
  | 0, v, p, D, hX, hF, h3, hw, h0, h1, hf, hD, hd, hR => by omega
  | f + 1, v, p, D, hX, hF, h3, hw, h0, h1, hf, hD, hd, hR => by
    have hn := ht.1
    have hgd := pWc_gd (X := X) h0 h1 hd
    unfold pWlF at hR
    refine zgo ck_M_readWall 300 20 _ _ _ _ rfl (sg_M_readWall_20 ?_)
    try simp (disch := omega) only [zup_e, zup_ak, zup_j, Int.zero_add, Int.reduceAdd, mz78, mz79, mz80, mz81, mz82, mz83, mz84, mz85, mz86, mz87, mz88, mz89, mz90, mz91, mz92, mz93, mz94, mz95, mz96, mz97, mz98, mz99, mz100, mz101, mz102, mz103, mz104, mz105, mz106, mz107, mz108, mz109, mz110, mz111, mz112, mz113, hw]
    refine ⟨fun q1 => ⟨by first | decide | omega | contradiction | exact absurd trivial (by assumption), ⟨fun q2 => ⟨by first | decide | omega | contradiction | exact absurd trivial (by assumption), ?_⟩, fun q3 => ⟨by first | decide | omega | contradiction | exact absurd trivial (by assumption), ?_⟩⟩⟩, fun q4 => ⟨by first | decide | omega | contradiction | exact absurd trivial (by assumption), ⟨fun q5 => ⟨by first | decide | omega | contradiction | exact absurd trivial (by assumption), ⟨fun q6 => ⟨by first | decide | omega | contradiction | exact absurd trivial (by assumption), ?_⟩, fun q7 => ⟨by first | decide | omega | contradiction | exact absurd trivial (by assumption), ?_⟩⟩⟩, fun q8 => ⟨by first | decide | omega | contradiction | exact absurd trivial (by assumption), ?_⟩⟩⟩⟩
    try (any_goals (exfalso; first | omega | exact absurd trivial (by assumption)))
    refine c_M_clauseText ht hX hD hd h3 hw h0 h1 (fun e v1 n1 n2 n3 => ?_) (fun q E v1 n1 n2 n3 n4 n5 => ?_)
    · rw [n1] at hR
      have hR : R = .error e := hR
      rcases n3 with ⟨⟨a1, a2⟩, a3, a4⟩ | ⟨a1, a2, a3, a4, a5, a6⟩
      · have fin := Ke e (zupd v1 77 3 (v1 77 3)) hR (FW_tr hF (FW_tr n2 (FW_7 (F7_up (by omega)))))
        rw [← a1] at fin
        have g : zJ l G 1 (d + 6) h_M_readWall k_M_readWall 115 Q QX 20 [(2, 77), (0, 0)] [] (zupd v1 77 3 (v1 77 3)) 115 := by
          refine zgo ck_M_readWall 300 20 _ _ _ _ rfl (sg_M_readWall_20 ?_)
          try simp (disch := omega) only [zup_e, zup_ak, zup_j, Int.zero_add, Int.reduceAdd, mz78, mz79, mz80, mz81, mz82, mz83, mz84, mz85, mz86, mz87, mz88, mz89, mz90, mz91, mz92, mz93, mz94, mz95, mz96, mz97, mz98, mz99, mz100, mz101, mz102, mz103, mz104, mz105, mz106, mz107, mz108, mz109, mz110, mz111, mz112, mz113]
          refine ⟨fun q1 => ⟨by first | decide | omega | contradiction | exact absurd trivial (by assumption), ⟨fun q2 => ⟨by first | decide | omega | contradiction | exact absurd trivial (by assumption), ?_⟩, fun q3 => ⟨by first | decide | omega | contradiction | exact absurd trivial (by assumption), ?_⟩⟩⟩, fun q4 => ⟨by first | decide | omega | contradiction | exact absurd trivial (by assumption), ⟨fun q5 => ⟨by first | decide | omega | contradiction | exact absurd trivial (by assumption), ⟨fun q6 => ⟨by first | decide | omega | contradiction | exact absurd trivial (by assumption), ?_⟩, fun q7 => ⟨by first | decide | omega | contradiction | exact absurd trivial (by assumption), ?_⟩⟩⟩, fun q8 => ⟨by first | decide | omega | contradiction | exact absurd trivial (by assumption), ?_⟩⟩⟩⟩
          try (any_goals (exfalso; first | omega | exact absurd trivial (by assumption)))
          exact fin
        show _
        simp only [Int.add_zero]
        refine ⟨by first | decide | omega | contradiction | exact absurd trivial (by assumption), ⟨fun q1 => ⟨by first | decide | omega | contradiction | exact absurd trivial (by assumption), ⟨fun q2 => ⟨⟨by first | decide | omega | contradiction | exact absurd trivial (by assumption), by first | decide | omega | contradiction | exact absurd trivial (by assumption)⟩, by first | decide | omega | contradiction | exact absurd trivial (by assumption), ?_⟩, fun q3 => ⟨⟨by first | decide | omega | contradiction | exact absurd trivial (by assumption), by first | decide | omega | contradiction | exact absurd trivial (by assumption)⟩, by first | decide | omega | contradiction | exact absurd trivial (by assumption), ?_⟩⟩⟩, fun q4 => ⟨by first | decide | omega | contradiction | exact absurd trivial (by assumption), ?_⟩⟩⟩
        try (any_goals (exfalso; first | omega | exact absurd trivial (by assumption)))
        exact g
      · refine ⟨by first | decide | omega | contradiction | exact absurd trivial (by assumption), ⟨fun q1 => ⟨by first | decide | omega | contradiction | exact absurd trivial (by assumption), ⟨fun q2 => ⟨⟨by first | decide | omega | contradiction | exact absurd trivial (by assumption), by first | decide | omega | contradiction | exact absurd trivial (by assumption)⟩, by first | decide | omega | contradiction | exact absurd trivial (by assumption), ?_⟩, fun q3 => ⟨⟨by first | decide | omega | contradiction | exact absurd trivial (by assumption), by first | decide | omega | contradiction | exact absurd trivial (by assumption)⟩, by first | decide | omega | contradiction | exact absurd trivial (by assumption), ?_⟩⟩⟩, fun q4 => ⟨by first | decide | omega | contradiction | exact absurd trivial (by assumption), ?_⟩⟩⟩
        try (any_goals (exfalso; first | omega | exact absurd trivial (by assumption)))
        refine c_M_look (p := e) ht (TM_W n2 hX) a2 (by omega) (by omega) (fun v2 f1 f2 => ?_)
        have w2 : v2 77 4 = -1 := by rw [f1.2 4 (by omega)]; exact a1
        have F2 : FW v0 (zupd v2 77 3 (pS X e)) := FW_tr hF (FW_tr n2 (FW_tr (FW_7 (F7_A f1)) (FW_7 (F7_up (by omega)))))
        have g := rlm_0 (l := l) (G := G) (d := d) (QX := QX) (v := zupd v2 77 3 (pS X e)) (p := e) (D := D) (R := R) ht (TM_A FA_up (TM_A f1 (TM_W n2 hX))) F2 (fun q => absurd q a6) zup_s (by rw [zup_j (by omega)]; exact w2) (by omega) (by omega) (by rw [if_neg (fun q => a6 q.1), a3]; exact hR) Ke Ko
        have hbe := pS_b (X := X) e
        show _
        simp only [f2, Int.add_zero]
        refine ⟨fun q1 => ⟨by first | decide | omega | contradiction | exact absurd trivial (by assumption), ⟨fun q2 => ⟨⟨by first | decide | omega | contradiction | exact absurd trivial (by assumption), by first | decide | omega | contradiction | exact absurd trivial (by assumption)⟩, by first | decide | omega | contradiction | exact absurd trivial (by assumption), ?_⟩, fun q3 => ⟨⟨by first | decide | omega | contradiction | exact absurd trivial (by assumption), by first | decide | omega | contradiction | exact absurd trivial (by assumption)⟩, by first | decide | omega | contradiction | exact absurd trivial (by assumption), ?_⟩⟩⟩, fun q4 => ⟨by first | decide | omega | contradiction | exact absurd trivial (by assumption), ⟨fun q5 => ⟨⟨by first | decide | omega | contradiction | exact absurd trivial (by assumption), by first | decide | omega | contradiction | exact absurd trivial (by assumption)⟩, by first | decide | omega | contradiction | exact absurd trivial (by assumption), ?_⟩, fun q6 => ⟨⟨by first | decide | omega | contradiction | exact absurd trivial (by assumption), by first | decide | omega | contradiction | exact absurd trivial (by assumption)⟩, by first | decide | omega | contradiction | exact absurd trivial (by assumption), ?_⟩⟩⟩⟩
        try (any_goals (exfalso; first | omega | exact absurd trivial (by assumption)))
        exact g
    · obtain ⟨a1, a2, a3⟩ := hgd.2 q E n1
      have hb := pS_b (X := X) q
      rw [n1] at hR
      have hR : R = if pC X q = 59 then pWlF X f (pS X q + 1) E else if pC X q = -1 ∧ dSt E = true then .ok E else .error (pS X q) := hR
      refine ⟨by first | decide | omega | contradiction | exact absurd trivial (by assumption), ⟨fun q1 => ⟨by first | decide | omega | contradiction | exact absurd trivial (by assumption), ⟨fun q2 => ⟨⟨by first | decide | omega | contradiction | exact absurd trivial (by assumption), by first | decide | omega | contradiction | exact absurd trivial (by assumption)⟩, by first | decide | omega | contradiction | exact absurd trivial (by assumption), ?_⟩, fun q3 => ⟨⟨by first | decide | omega | contradiction | exact absurd trivial (by assumption), by first | decide | omega | contradiction | exact absurd trivial (by assumption)⟩, by first | decide | omega | contradiction | exact absurd trivial (by assumption), ?_⟩⟩⟩, fun q4 => ⟨by first | decide | omega | contradiction | exact absurd trivial (by assumption), ?_⟩⟩⟩
      try (any_goals (exfalso; first | omega | exact absurd trivial (by assumption)))
      refine c_M_look (p := q) ht (TM_W n2 hX) n3 (by omega) (by omega) (fun v2 f1 f2 => ?_)
      have w2 : v2 77 4 = -1 := by rw [f1.2 4 (by omega)]; exact n4
      have F2 : ∀ x : Int, FW v0 (zupd v2 77 3 x) := fun x => FW_tr hF (FW_tr n2 (FW_tr (FW_7 (F7_A f1)) (FW_7 (F7_up (by omega)))))
      have D2 : ∀ x : Int, DM (zupd v2 77 3 x) E := fun x => DM_7 (F7_up (by omega)) (DM_7 (F7_A f1) n5)
      have X2 : ∀ x : Int, TM (zupd v2 77 3 x) X := fun x => TM_A FA_up (TM_A f1 (TM_W n2 hX))
      have W2 : ∀ x : Int, (zupd v2 77 3 x) 77 4 = -1 := fun x => by rw [zup_j (by omega)]; exact w2
      show _
      simp only [f2]
      by_cases hc : pC X q = 59
      · rw [if_pos hc] at hR
        have hlt := pC_lt (X := X) (p := q) (by omega)
        refine ⟨fun q1 => ⟨by first | decide | omega | contradiction | exact absurd trivial (by assumption), ⟨fun q2 => ⟨⟨by first | decide | omega | contradiction | exact absurd trivial (by assumption), by first | decide | omega | contradiction | exact absurd trivial (by assumption)⟩, by first | decide | omega | contradiction | exact absurd trivial (by assumption), ?_⟩, fun q3 => ⟨⟨by first | decide | omega | contradiction | exact absurd trivial (by assumption), by first | decide | omega | contradiction | exact absurd trivial (by assumption)⟩, by first | decide | omega | contradiction | exact absurd trivial (by assumption), ?_⟩⟩⟩, fun q4 => ⟨by first | decide | omega | contradiction | exact absurd trivial (by assumption), ⟨fun q5 => ⟨⟨by first | decide | omega | contradiction | exact absurd trivial (by assumption), by first | decide | omega | contradiction | exact absurd trivial (by assumption)⟩, by first | decide | omega | contradiction | exact absurd trivial (by assumption), ?_⟩, fun q6 => ⟨⟨by first | decide | omega | contradiction | exact absurd trivial (by assumption), by first | decide | omega | contradiction | exact absurd trivial (by assumption)⟩, by first | decide | omega | contradiction | exact absurd trivial (by assumption), ?_⟩⟩⟩⟩
        try (any_goals (exfalso; first | omega | exact absurd trivial (by assumption)))
        exact rlm_20 ht Ke Ko f (X2 _) (F2 _) zup_s (W2 _) (by omega) (by omega) (by omega) (D2 _) a3 hR
      · rw [if_neg hc] at hR
        have g := rlm_0 (l := l) (G := G) (d := d) (QX := QX) (v := zupd v2 77 3 (pS X q)) (p := q) (D := E) (R := R) ht (X2 _) (F2 _) (fun _ => ⟨D2 _, a3⟩) zup_s (W2 _) (by omega) (by omega) hR Ke Ko
        simp only [Int.add_zero]
        refine ⟨fun q1 => ⟨by first | decide | omega | contradiction | exact absurd trivial (by assumption), ⟨fun q2 => ⟨⟨by first | decide | omega | contradiction | exact absurd trivial (by assumption), by first | decide | omega | contradiction | exact absurd trivial (by assumption)⟩, by first | decide | omega | contradiction | exact absurd trivial (by assumption), ?_⟩, fun q3 => ⟨⟨by first | decide | omega | contradiction | exact absurd trivial (by assumption), by first | decide | omega | contradiction | exact absurd trivial (by assumption)⟩, by first | decide | omega | contradiction | exact absurd trivial (by assumption), ?_⟩⟩⟩, fun q4 => ⟨by first | decide | omega | contradiction | exact absurd trivial (by assumption), ⟨fun q5 => ⟨⟨by first | decide | omega | contradiction | exact absurd trivial (by assumption), by first | decide | omega | contradiction | exact absurd trivial (by assumption)⟩, by first | decide | omega | contradiction | exact absurd trivial (by assumption), ?_⟩, fun q6 => ⟨⟨by first | decide | omega | contradiction | exact absurd trivial (by assumption), by first | decide | omega | contradiction | exact absurd trivial (by assumption)⟩, by first | decide | omega | contradiction | exact absurd trivial (by assumption), ?_⟩⟩⟩⟩
        try (any_goals (exfalso; first | omega | exact absurd trivial (by assumption)))
        exact g
theorem c_M_readWall {X : zTp} (ht : tOk X) (hX : TM v X) (Ke : ∀ (e : Int) (v' : zH), pWl X = .error e → FW v v' → Q e v') (Ko : ∀ (E : zDf) (v' : zH), pWl X = .ok E → FW v v' → DM v' E → Q (-1) v') : zC l G 1 (d + 6) h_M_readWall [(2, 77)] v 115 Q := by
  have hn := ht.1
  have hF : FW v (zupd (zupd (zupd (zupd (zupd (zupd v 77 3 0) 77 4 (-1)) 77 22 0) 77 23 0) 77 24 0) 77 25 0) := FW_tr (FW_7 (F7_up (by omega))) (FW_tr (FW_7 (F7_up (by omega))) (FW_tr (FW_up (by omega)) (FW_tr (FW_up (by omega)) (FW_tr (FW_up (by omega)) (FW_up (by omega))))))
  have g := rlm_20 (l := l) (G := G) (d := d) (QX := fun _ _ => False) (v := zupd (zupd (zupd (zupd (zupd (zupd v 77 3 0) 77 4 (-1)) 77 22 0) 77 23 0) 77 24 0) 77 25 0) (R := pWl X) (D := d0) (p := 0) ht Ke Ko (X.2.toNat + 1) (TM_W hF hX) hF (by simp (disch := omega) only [zup_j, zup_s]) (by simp (disch := omega) only [zup_j, zup_s]) (by omega) (by omega) (by omega) ⟨⟨by simp (disch := omega) only [zup_j, zup_s]; rfl, fun j j1 j2 => by rw [show dS d0 = 0 from rfl] at j2; omega⟩, ⟨by simp (disch := omega) only [zup_j, zup_s]; rfl, fun j j1 j2 => by rw [show dO d0 = 0 from rfl] at j2; omega⟩, ⟨by simp (disch := omega) only [zup_j, zup_s]; rfl, fun j j1 j2 => by rw [show dZ d0 = 0 from rfl] at j2; omega⟩, by simp (disch := omega) only [zup_j, zup_s]; rfl, fun r r1 r2 => by rw [show dR d0 = 0 from rfl] at r2; omega, fun r c r1 r2 => by rw [show dR d0 = 0 from rfl] at r2; omega, fun c c1 c2 => by omega⟩ dOk_0 rfl
  refine zC_at ok_M_readWall ck_M_readWall rfl rfl (sg_M_readWall_0 ?_)
  try simp (disch := omega) only [zup_e, zup_ak, zup_j, Int.zero_add, Int.reduceAdd, mz78, mz79, mz80, mz81, mz82, mz83, mz84, mz85, mz86, mz87, mz88, mz89, mz90, mz91, mz92, mz93, mz94, mz95, mz96, mz97, mz98, mz99, mz100, mz101, mz102, mz103, mz104, mz105, mz106, mz107, mz108, mz109, mz110, mz111, mz112, mz113]
  refine ⟨by first | decide | omega | contradiction | exact absurd trivial (by assumption), by first | decide | omega | contradiction | exact absurd trivial (by assumption), by first | decide | omega | contradiction | exact absurd trivial (by assumption), by first | decide | omega | contradiction | exact absurd trivial (by assumption), by first | decide | omega | contradiction | exact absurd trivial (by assumption), by first | decide | omega | contradiction | exact absurd trivial (by assumption), ?_⟩
  exact g
theorem AM_FW {v' : zH} {s : zSg} (h : FW v v') (k : AM v s) : AM v' s := by
  have hk : ∀ j : Int, ¬ (3 ≤ j ∧ j ≤ 5) → ¬ (22 ≤ j ∧ j ≤ 25) → v' 77 j = v 77 j := h.2
  have hb : ∀ b : Int, b ≠ 77 → ¬ (88 ≤ b ∧ b ≤ 92) → v' b = v b := h.1
  exact ⟨⟨MQc_fr (fun b q => hb b (by omega) (by omega)) (fun j q => hk j (by omega) (by omega)) k.1.1, by rw [hk 39 (by omega) (by omega)]; exact k.1.2.1, k.1.2.2⟩, TM_fr (hk 2 (by omega) (by omega)) (hb 78 (by omega) (by omega)) k.2.1, MPa_fr (hk 46 (by omega) (by omega)) (hb 102 (by omega) (by omega)) k.2.2.1, MIm_fr (hk 62 (by omega) (by omega)) (hk 61 (by omega) (by omega)) (hb 113 (by omega) (by omega)) k.2.2.2.1, MTo_fr (hk 56 (by omega) (by omega)) (hb 107 (by omega) (by omega)) (hb 108 (by omega) (by omega)) (hb 109 (by omega) (by omega)) k.2.2.2.2⟩
theorem MS_FLn {v' : zH} {n : Int} {S : zSk} (hn : (kA S).length ≤ n ∧ n ≤ 4) (hS : Sok S) (h : FLn n v v') (k : MS v S) : ∀ (j : Nat) (P : zLw), (kA S)[j]? = some P → v' 82 j = P.length ∧ MLc v' j 0 0 P := by
  intro j P hP
  have hlt := (List.getElem?_eq_some_iff.mp hP).1
  obtain ⟨q1, q2⟩ := k.2.2.2 j P hP
  have hgd := hS.2.1 P (List.mem_of_getElem? hP)
  obtain ⟨z1, z2, z3, z4, z5⟩ := h
  have htk := tkN_l P hgd.1
  have tp := tkN_0 P
  have hl := hgd.2
  exact ⟨by rw [(z3 j (by omega)).2]; exact q1, MLc_fr P 0 0 (fun i i1 i2 => z5 i (by omega)) (fun i i1 i2 => z4 i (by omega)) q2⟩
theorem AM_FLn {v' : zH} {s : zSg} {n : Int} (hn : (kA (gS s)).length ≤ n ∧ n ≤ 4) (h : FLn n v v') (k : AM v s) : AM v' s := by
  obtain ⟨⟨⟨hW, hM, hc, hO, hk, hS⟩, q2', q3'⟩, a2, a3, a4, a5⟩ := k
  have hj : ∀ j : Int, ¬ (3 ≤ j ∧ j ≤ 5) → j ≠ 14 → v' 77 j = v 77 j := fun j a b => h.2.1 j (by omega) (by omega) (by omega) b
  have hb : ∀ b : Int, b = 78 ∨ 85 < b → v' b = v b := fun b q => h.1 b (by omega)
  exact ⟨⟨⟨hW, MW_fr (fun j _ _ => hj j (by omega) (by omega)) (hb 93 (by omega)) (fun o _ _ => by rw [hb 94 (by omega)]; exact ⟨rfl, rfl, rfl⟩) (hb 95 (by omega)) hM, hc, ⟨by rw [hj 36 (by omega) (by omega)]; exact hO.1, by rw [hb 97 (by omega), hb 96 (by omega)]; exact hO.2.1, by rw [hj 39 (by omega) (by omega), hb 94 (by omega)]; exact hO.2.2⟩, hk, ⟨(hj 13 (by omega) (by omega)).trans hS.1, (hj 37 (by omega) (by omega)).trans hS.2.1, (hj 38 (by omega) (by omega)).trans hS.2.2.1, MS_FLn hn hk h hS⟩⟩, (hj 39 (by omega) (by omega)).trans q2', q3'⟩, TM_fr (hj 2 (by omega) (by omega)) (hb 78 (by omega)) a2, MPa_fr (hj 46 (by omega) (by omega)) (hb 102 (by omega)) a3, MIm_fr (hj 62 (by omega) (by omega)) (hj 61 (by omega) (by omega)) (hb 113 (by omega)) a4, MTo_fr (hj 56 (by omega) (by omega)) (hb 107 (by omega)) (hb 108 (by omega)) (hb 109 (by omega)) a5⟩
theorem c_M_fault {k : Int} {s : zSg} {B : Int} (hG : GOk s B) (hA : AM v s) (K : ∀ v' : zH, Fm v v' → AM v' s → Q (aFault s k) v') : zC l G 1 (d + 42) h_M_fault [(2, 77), (0, k)] v 115 Q := by
  have ht := hG.2.2.2.1
  have hk := hA.1.1.2.2.2.2.1
  unfold aFault at K
  by_cases h0 : k = 0
  · rw [if_pos h0] at K
    refine zC_at ok_M_fault ck_M_fault rfl rfl (sg_M_fault_0 ?_)
    try simp (disch := omega) only [zup_e, zup_ak, zup_j, Int.zero_add, Int.reduceAdd, mz78, mz79, mz80, mz81, mz82, mz83, mz84, mz85, mz86, mz87, mz88, mz89, mz90, mz91, mz92, mz93, mz94, mz95, mz96, mz97, mz98, mz99, mz100, mz101, mz102, mz103, mz104, mz105, mz106, mz107, mz108, mz109, mz110, mz111, mz112, mz113]
    refine ⟨fun q1 => ⟨fun q2 => ?_, fun q3 => ⟨by first | decide | omega | contradiction | exact absurd trivial (by assumption), ?_⟩⟩, fun q4 => ⟨by first | decide | omega | contradiction | exact absurd trivial (by assumption), ?_⟩⟩
    try (any_goals (exfalso; first | omega | exact absurd trivial (by assumption)))
    refine c_M_readWall ht hA.2.1 (fun e v1 n1 n2 => ?_) (fun E v1 n1 n2 n3 => ?_)
    · have fin := K v1 (fun b q => n2.1 b (by omega) (by omega)) (AM_FW n2 hA)
      rw [n1] at fin
      exact fin
    · have fin := K v1 (fun b q => n2.1 b (by omega) (by omega)) (AM_FW n2 hA)
      rw [n1] at fin
      exact fin
  rw [if_neg h0] at K
  by_cases h1 : k = 1
  · rw [if_pos h1] at K
    refine zC_at ok_M_fault ck_M_fault rfl rfl (sg_M_fault_0 ?_)
    try simp (disch := omega) only [zup_e, zup_ak, zup_j, Int.zero_add, Int.reduceAdd, mz78, mz79, mz80, mz81, mz82, mz83, mz84, mz85, mz86, mz87, mz88, mz89, mz90, mz91, mz92, mz93, mz94, mz95, mz96, mz97, mz98, mz99, mz100, mz101, mz102, mz103, mz104, mz105, mz106, mz107, mz108, mz109, mz110, mz111, mz112, mz113]
    refine ⟨fun q1 => ⟨fun q2 => ?_, fun q3 => ⟨by first | decide | omega | contradiction | exact absurd trivial (by assumption), ?_⟩⟩, fun q4 => ⟨by first | decide | omega | contradiction | exact absurd trivial (by assumption), ?_⟩⟩
    try (any_goals (exfalso; first | omega | exact absurd trivial (by assumption)))
    refine c_M_readLaw ht (by omega) hA.2.1 (fun e v1 n1 n2 => ?_) (fun P v1 n1 n2 n3 n4 => ?_)
    · have fin := K v1 (fun b q => n2.1 b (by omega)) (AM_FLn (s := s) ⟨by have := hk.1; omega, by omega⟩ n2 hA)
      rw [n1] at fin
      exact fin
    · have fin := K v1 (fun b q => n2.1 b (by omega)) (AM_FLn (s := s) ⟨by have := hk.1; omega, by omega⟩ n2 hA)
      rw [n1] at fin
      exact fin
  · rw [if_neg h1] at K
    have fin := K v Fm_rf hA
    refine zC_at ok_M_fault ck_M_fault rfl rfl (sg_M_fault_0 ?_)
    try simp (disch := omega) only [zup_e, zup_ak, zup_j, Int.zero_add, Int.reduceAdd, mz78, mz79, mz80, mz81, mz82, mz83, mz84, mz85, mz86, mz87, mz88, mz89, mz90, mz91, mz92, mz93, mz94, mz95, mz96, mz97, mz98, mz99, mz100, mz101, mz102, mz103, mz104, mz105, mz106, mz107, mz108, mz109, mz110, mz111, mz112, mz113]
    refine ⟨fun q1 => ⟨fun q2 => ?_, fun q3 => ⟨by first | decide | omega | contradiction | exact absurd trivial (by assumption), ?_⟩⟩, fun q4 => ⟨by first | decide | omega | contradiction | exact absurd trivial (by assumption), ?_⟩⟩
    try (any_goals (exfalso; first | omega | exact absurd trivial (by assumption)))
    exact fin
-- a wall taken
theorem tkm_44 {v0 : zH} {r : Int} {QX : Nat → zH → Prop} (h31 : 0 ≤ v0 77 31 ∧ v0 77 31 ≤ 4) (h32 : 0 ≤ v0 77 32 ∧ v0 77 32 ≤ 6) (hr : v0 77 31 * v0 77 32 = r) (hrb : 0 ≤ r ∧ r ≤ 24) (K : ∀ v' : zH, (∀ b : Int, b ≠ 77 → b ≠ 97 → v' b = v0 b) → (∀ k : Int, k ≠ 36 → k ≠ 37 → k ≠ 46 → k ≠ 56 → k ≠ 62 → v' 77 k = v0 77 k) → v' 77 36 = 0 → v' 77 37 = 0 → v' 77 46 = 0 → v' 77 56 = 0 → v' 77 62 = 0 → (∀ o : Int, 0 ≤ o → o < 36 → v' 97 o = 0) → Q r v') :
    ∀ (m i : Nat) {v : zH}, i + m = 36 → (∀ b : Int, b ≠ 97 → v b = v0 b) → (∀ o : Int, 0 ≤ o → o < i → v 97 o = 0) → zJ l G 1 (d + 2) h_M_takeWall k_M_takeWall 115 Q QX 44 [(2, 77), (0, (i : Int))] [] v 115
  | m, i, v, hi, hF, hp => by
    match m, hi with
    | 0, hi =>
      have e31 : v 77 31 = v0 77 31 := by rw [hF 77 (by omega)]
      have e32 : v 77 32 = v0 77 32 := by rw [hF 77 (by omega)]
      have fin := K (zupd (zupd (zupd (zupd (zupd v 77 36 0) 77 37 0) 77 56 0) 77 46 0) 77 62 0) (fun b b1 b2 => by rw [zup_a b1, zup_a b1, zup_a b1, zup_a b1, zup_a b1]; exact hF b b2) (fun k k1 k2 k3 k4 k5 => by rw [zup_j k5, zup_j k3, zup_j k4, zup_j k2, zup_j k1, hF 77 (by omega)]) (by simp (disch := omega) only [zup_j, zup_s]) (by simp (disch := omega) only [zup_j, zup_s]) (by simp (disch := omega) only [zup_j, zup_s]) (by simp (disch := omega) only [zup_j, zup_s]) zup_s (fun o o1 o2 => by simp (disch := omega) only [zup_ak]; exact hp o o1 (by omega))
      refine zgo ck_M_takeWall 300 44 _ _ _ _ rfl (sg_M_takeWall_44 ?_)
      try simp (disch := omega) only [zup_e, zup_ak, zup_j, Int.zero_add, Int.reduceAdd, mz78, mz79, mz80, mz81, mz82, mz83, mz84, mz85, mz86, mz87, mz88, mz89, mz90, mz91, mz92, mz93, mz94, mz95, mz96, mz97, mz98, mz99, mz100, mz101, mz102, mz103, mz104, mz105, mz106, mz107, mz108, mz109, mz110, mz111, mz112, mz113, e31, e32, hr]
      refine ⟨fun q1 => ⟨by first | decide | omega | contradiction | exact absurd trivial (by assumption), by first | decide | omega | contradiction | exact absurd trivial (by assumption), by first | decide | omega | contradiction | exact absurd trivial (by assumption), by first | decide | omega | contradiction | exact absurd trivial (by assumption), by first | decide | omega | contradiction | exact absurd trivial (by assumption), by first | decide | omega | contradiction | exact absurd trivial (by assumption), by first | decide | omega | contradiction | exact absurd trivial (by assumption), by first | decide | omega | contradiction | exact absurd trivial (by assumption), ⟨by first | decide | omega | contradiction | exact absurd trivial (by assumption), by first | decide | omega | contradiction | exact absurd trivial (by assumption)⟩, ?_⟩, fun q2 => ⟨by first | decide | omega | contradiction | exact absurd trivial (by assumption), by first | decide | omega | contradiction | exact absurd trivial (by assumption), ⟨by first | decide | omega | contradiction | exact absurd trivial (by assumption), by first | decide | omega | contradiction | exact absurd trivial (by assumption)⟩, ⟨by first | decide | omega | contradiction | exact absurd trivial (by assumption), by first | decide | omega | contradiction | exact absurd trivial (by assumption)⟩, ?_⟩⟩
      try (any_goals (exfalso; first | omega | exact absurd trivial (by assumption)))
      exact fin
    | m + 1, hi =>
      refine zgo ck_M_takeWall 300 44 _ _ _ _ rfl (sg_M_takeWall_44 ?_)
      try simp (disch := omega) only [zup_e, zup_ak, zup_j, Int.zero_add, Int.reduceAdd, mz78, mz79, mz80, mz81, mz82, mz83, mz84, mz85, mz86, mz87, mz88, mz89, mz90, mz91, mz92, mz93, mz94, mz95, mz96, mz97, mz98, mz99, mz100, mz101, mz102, mz103, mz104, mz105, mz106, mz107, mz108, mz109, mz110, mz111, mz112, mz113]
      refine ⟨fun q1 => ⟨by first | decide | omega | contradiction | exact absurd trivial (by assumption), by first | decide | omega | contradiction | exact absurd trivial (by assumption), by first | decide | omega | contradiction | exact absurd trivial (by assumption), by first | decide | omega | contradiction | exact absurd trivial (by assumption), by first | decide | omega | contradiction | exact absurd trivial (by assumption), by first | decide | omega | contradiction | exact absurd trivial (by assumption), by first | decide | omega | contradiction | exact absurd trivial (by assumption), by first | decide | omega | contradiction | exact absurd trivial (by assumption), ⟨by first | decide | omega | contradiction | exact absurd trivial (by assumption), by first | decide | omega | contradiction | exact absurd trivial (by assumption)⟩, ?_⟩, fun q2 => ⟨by first | decide | omega | contradiction | exact absurd trivial (by assumption), by first | decide | omega | contradiction | exact absurd trivial (by assumption), ⟨by first | decide | omega | contradiction | exact absurd trivial (by assumption), by first | decide | omega | contradiction | exact absurd trivial (by assumption)⟩, ⟨by first | decide | omega | contradiction | exact absurd trivial (by assumption), by first | decide | omega | contradiction | exact absurd trivial (by assumption)⟩, ?_⟩⟩
      try (any_goals (exfalso; first | omega | exact absurd trivial (by assumption)))
      refine tkm_44 h31 h32 hr hrb K m (i + 1) (by omega) (fun b q => (zup_a q).trans (hF b q)) (fun o o1 o2 => ?_)
      by_cases e : o = i
      · rw [e, zup_s]
      · rw [zup_j e]
        exact hp o o1 (by omega)
theorem c_M_takeWall {D : zDf} {S : zSk} (hd : dOk D) (hs : dSt D = true) (hD : DM v D) (hS : Sok S) (hM : MS v S) (h39 : v 77 39 = -1)
    (K : ∀ v' : zH, (∀ b : Int, b ≠ 77 → ¬ (93 ≤ b ∧ b ≤ 97) → v' b = v b) → (∀ k : Int, ¬ (30 ≤ k ∧ k ≤ 37) → k ≠ 46 → k ≠ 56 → k ≠ 62 → v' 77 k = v 77 k) → QM v' (dWl D) (dCo D) (kA S, kH S, 0) → v' 77 46 = 0 → v' 77 56 = 0 → v' 77 62 = 0 → Q (dR D * dW D 0) v') : zC l G 1 (d + 2) h_M_takeWall [(2, 77)] v 115 Q := by
  obtain ⟨⟨k1, k1'⟩, ⟨k2, k2'⟩, ⟨k3, k3'⟩, k4, k5, k6⟩ := id hD
  obtain ⟨g0, g1, g2, g3, g4⟩ := id hd
  obtain ⟨hW, hc, hR1⟩ := dWl_ok hd hs
  have hst := dSt_iff.mp hs
  have hR : 1 ≤ dR D := hR1
  have hC := (g4 0 (by omega) (by omega)).1
  have s4 : 0 ≤ dS D ∧ dS D ≤ 4 := g0.1
  have o3 : 0 ≤ dO D ∧ dO D ≤ 3 := g1.1
  have z5 : 0 ≤ dZ D ∧ dZ D ≤ 5 := g2.1
  have e92 := k5 0 (by omega) (by omega)
  have hN := hW.2.2.2.1
  have hN : 0 ≤ dR D * dW D 0 ∧ dR D * dW D 0 ≤ 24 := hN
  refine zC_at ok_M_takeWall ck_M_takeWall rfl rfl (sg_M_takeWall_0 ?_)
  try simp (disch := omega) only [zup_e, zup_ak, zup_j, Int.zero_add, Int.reduceAdd, mz78, mz79, mz80, mz81, mz82, mz83, mz84, mz85, mz86, mz87, mz88, mz89, mz90, mz91, mz92, mz93, mz94, mz95, mz96, mz97, mz98, mz99, mz100, mz101, mz102, mz103, mz104, mz105, mz106, mz107, mz108, mz109, mz110, mz111, mz112, mz113, k1, k2, k3, k4, e92]
  refine ⟨by first | decide | omega | contradiction | exact absurd trivial (by assumption), by first | decide | omega | contradiction | exact absurd trivial (by assumption), by first | decide | omega | contradiction | exact absurd trivial (by assumption), by first | decide | omega | contradiction | exact absurd trivial (by assumption), by first | decide | omega | contradiction | exact absurd trivial (by assumption), by first | decide | omega | contradiction | exact absurd trivial (by assumption), ⟨by first | decide | omega | contradiction | exact absurd trivial (by assumption), by first | decide | omega | contradiction | exact absurd trivial (by assumption)⟩, by first | decide | omega | contradiction | exact absurd trivial (by assumption), by first | decide | omega | contradiction | exact absurd trivial (by assumption), by first | decide | omega | contradiction | exact absurd trivial (by assumption), by first | decide | omega | contradiction | exact absurd trivial (by assumption), by first | decide | omega | contradiction | exact absurd trivial (by assumption), by first | decide | omega | contradiction | exact absurd trivial (by assumption), by first | decide | omega | contradiction | exact absurd trivial (by assumption), ?_⟩
  generalize hv1 : zupd (zupd (zupd (zupd (zupd v 77 30 (dS D)) 77 31 (dR D)) 77 32 (dW D 0)) 77 33 (dO D)) 77 34 (dZ D) = v1
  have b1 : ∀ b : Int, b ≠ 77 → v1 b = v b := fun b q => by rw [← hv1, zup_a q, zup_a q, zup_a q, zup_a q, zup_a q]
  have j1 : ∀ k : Int, ¬ (30 ≤ k ∧ k ≤ 34) → v1 77 k = v 77 k := fun k q => by rw [← hv1]; simp (disch := omega) only [zup_j]
  have j30 : v1 77 30 = dS D ∧ v1 77 31 = dR D ∧ v1 77 32 = dW D 0 ∧ v1 77 33 = dO D ∧ v1 77 34 = dZ D := by
    rw [← hv1]
    refine ⟨?_, ?_, ?_, ?_, ?_⟩ <;> simp (disch := omega) only [zup_j, zup_s]
  refine c_M_copy (n := 12) (by decide) (by decide) (by omega) (by omega) (fun v2 f2 h2 => ?_)
  refine ⟨by first | decide | omega | contradiction | exact absurd trivial (by assumption), by first | decide | omega | contradiction | exact absurd trivial (by assumption), ?_⟩
  refine c_M_copy (n := 15) (by decide) (by decide) (by omega) (by omega) (fun v3 f3 h3 => ?_)
  refine ⟨by first | decide | omega | contradiction | exact absurd trivial (by assumption), by first | decide | omega | contradiction | exact absurd trivial (by assumption), ?_⟩
  refine c_M_copy (n := 10) (by decide) (by decide) (by omega) (by omega) (fun v4 f4 h4 => ?_)
  refine ⟨by first | decide | omega | contradiction | exact absurd trivial (by assumption), by first | decide | omega | contradiction | exact absurd trivial (by assumption), ?_⟩
  refine c_M_copy (n := 36) (by decide) (by decide) (by omega) (by omega) (fun v5 f5 h5 => ?_)
  have e77 : v5 77 = v1 77 := by rw [f5 77 (by omega), f4 77 (by omega), f3 77 (by omega), f2 77 (by omega)]
  refine tkm_44 (v0 := v5) (r := dR D * dW D 0) (by rw [e77, j30.2.1]; omega) (by rw [e77, j30.2.2.1]; omega) (by rw [e77, j30.2.1, j30.2.2.1]) hN (fun v' a1 a2 a3 a4 a5 a6 a7 a8 => ?_) 36 0 (by omega) (fun _ _ => rfl) (fun o o1 o2 => by omega)
  have hb : ∀ b : Int, b ≠ 77 → ¬ (93 ≤ b ∧ b ≤ 97) → v' b = v b := fun b b1' b2' => by rw [a1 b b1' (by omega), f5 b (by omega), f4 b (by omega), f3 b (by omega), f2 b (by omega), b1 b b1']
  have hk : ∀ k : Int, ¬ (30 ≤ k ∧ k ≤ 37) → k ≠ 46 → k ≠ 56 → k ≠ 62 → v' 77 k = v 77 k := fun k q1 q2 q3 q4 => by rw [a2 k (by omega) (by omega) q2 q3 q4, e77, j1 k (by omega)]
  have h93 : ∀ j : Int, 0 ≤ j → j < 12 → v' 93 j = v 88 j := fun j q1 q2 => by rw [a1 93 (by omega) (by omega), f5 93 (by omega), f4 93 (by omega), f3 93 (by omega), h2 j q1 q2, b1 88 (by omega)]
  have h94 : ∀ j : Int, 0 ≤ j → j < 15 → v' 94 j = v 89 j := fun j q1 q2 => by rw [a1 94 (by omega) (by omega), f5 94 (by omega), f4 94 (by omega), h3 j q1 q2, f2 89 (by omega), b1 89 (by omega)]
  have h95 : ∀ j : Int, 0 ≤ j → j < 10 → v' 95 j = v 90 j := fun j q1 q2 => by rw [a1 95 (by omega) (by omega), f5 95 (by omega), h4 j q1 q2, f3 90 (by omega), f2 90 (by omega), b1 90 (by omega)]
  have h96 : ∀ j : Int, 0 ≤ j → j < 36 → v' 96 j = v 91 j := fun j q1 q2 => by rw [a1 96 (by omega) (by omega), h5 j q1 q2, f4 91 (by omega), f3 91 (by omega), f2 91 (by omega), b1 91 (by omega)]
  have g77 : ∀ k : Int, (30 ≤ k ∧ k ≤ 34) → v' 77 k = v1 77 k := fun k q => by rw [a2 k (by omega) (by omega) (by omega) (by omega) (by omega), e77]
  refine K v' hb hk ⟨⟨hW, ⟨(g77 30 (by omega)).trans j30.1, (g77 31 (by omega)).trans j30.2.1, (g77 32 (by omega)).trans j30.2.2.1, (g77 33 (by omega)).trans j30.2.2.2.1, (g77 34 (by omega)).trans j30.2.2.2.2, fun j q1 q2 => ?_, fun o q1 q2 => ⟨?_, ?_, ?_⟩, fun j q1 q2 => ?_⟩, hc, ⟨a3, fun a ha => ⟨?_, ?_⟩, fun o q1 q2 => ⟨fun q => ?_, fun _ => ⟨?_, ?_⟩⟩⟩, ⟨hS.1, hS.2.1, hS.2.2.1, hS.2.2.2⟩, ⟨(hk 13 (by omega) (by omega) (by omega) (by omega)).trans hM.1, a4, (hk 38 (by omega) (by omega) (by omega) (by omega)).trans hM.2.2.1, fun j P hP => ?_⟩⟩, (hk 39 (by omega) (by omega) (by omega) (by omega)).trans h39, by show (0 : Int) ≤ 900000; omega⟩ a5 a6 a7
  · have q2 : j < 3 * dS D := q2
    rw [h93 j q1 (by omega)]
    exact k1' j q1 q2
  · have q2 : o < dO D := q2
    rw [h94 _ (by omega) (by omega)]
    exact k2' _ (by omega) (by omega)
  · have q2 : o < dO D := q2
    rw [h94 _ (by omega) (by omega)]
    exact k2' _ (by omega) (by omega)
  · have q2 : o < dO D := q2
    rw [h94 _ (by omega) (by omega)]
    exact k2' _ (by omega) (by omega)
  · have q2 : j < 2 * dZ D := q2
    rw [h95 j q1 (by omega)]
    exact k3' j q1 q2
  · have h36 := is36 hW ha
    exact a8 a h36.1 h36.2.1
  · have h36 := is36 hW ha
    obtain ⟨x0, x1, x2, x3, x4, x5, x6, x7, x8⟩ := gE hW.1.2 hW.2.1 ha
    have ha' := isc_iff.mp ha
    have ha2 : a / 10 < dR D := ha'.2.1
    have ha3 : a % 10 < dW D 0 := ha'.2.2
    have hrow := hst.2.2.1 (a / 10) (by omega) (by omega)
    unfold dRow at hrow
    simp only [Bool.and_eq_true, decide_eq_true_eq] at hrow
    have e := k6.1 (a / 10) (a % 10) (by omega) ha2 (by omega) (by rw [hrow.1]; exact ha3)
    rw [show 10 * (a / 10) + a % 10 = a by omega] at e
    rw [h96 a h36.1 h36.2.1, e]
    show _ = dE D (6 * (ixn (dW D 0) a / dW D 0) + ixn (dW D 0) a % dW D 0)
    have x2 : ixn (dW D 0) a / dW D 0 = a / 10 := x2
    have x3 : ixn (dW D 0) a % dW D 0 = a % 10 := x3
    rw [x2, x3]
  · rw [hk 39 (by omega) (by omega) (by omega) (by omega), h39] at q
    omega
  · have q2 : o < dO D := q2
    rw [h94 _ (by omega) (by omega)]
    exact k2' _ (by omega) (by omega)
  · have q2 : o < dO D := q2
    rw [h94 _ (by omega) (by omega)]
    exact k2' _ (by omega) (by omega)
  · obtain ⟨q1, q2⟩ := hM.2.2.2 j P hP
    exact ⟨by rw [hb 82 (by omega) (by omega)]; exact q1, MLc_fr P 0 0 (fun j _ _ => by rw [hb 83 (by omega) (by omega), hb 84 (by omega) (by omega), hb 85 (by omega) (by omega)]; exact ⟨rfl, rfl, rfl⟩) (fun j _ _ => by rw [hb 79 (by omega) (by omega), hb 80 (by omega) (by omega)]; exact ⟨rfl, rfl⟩) q2⟩
theorem c_M_text {k : Int} {s : zSg} {B : Int} (hG : GOk s B) (hA : AM v s) (K : ∀ v' : zH, Fm v v' → AM v' (gText s k) → Q (aText s k) v') : zC l G 1 (d + 42) h_M_text [(2, 77), (0, k)] v 115 Q := by
  have ht := hG.2.2.2.1
  have hn := ht.1
  have hk := hA.1.1.2.2.2.2.1
  have hMS := hA.1.1.2.2.2.2.2
  have h39 := hA.1.2.1
  unfold gText aText at K
  by_cases h0 : k = 0
  · rw [if_pos h0, if_pos h0] at K
    unfold gTextW aTextW at K
    have hgd := pWl_gd (X := gX s) (by omega)
    refine zC_at ok_M_text ck_M_text rfl rfl (sg_M_text_0 ?_)
    try simp (disch := omega) only [zup_e, zup_ak, zup_j, Int.zero_add, Int.reduceAdd, mz78, mz79, mz80, mz81, mz82, mz83, mz84, mz85, mz86, mz87, mz88, mz89, mz90, mz91, mz92, mz93, mz94, mz95, mz96, mz97, mz98, mz99, mz100, mz101, mz102, mz103, mz104, mz105, mz106, mz107, mz108, mz109, mz110, mz111, mz112, mz113]
    refine ⟨fun q1 => ⟨fun q2 => ?_, fun q3 => ⟨by first | decide | omega | contradiction | exact absurd trivial (by assumption), ⟨fun q4 => ?_, fun q5 => ⟨by first | decide | omega | contradiction | exact absurd trivial (by assumption), by first | decide | omega | contradiction | exact absurd trivial (by assumption), ?_⟩⟩⟩⟩, fun q6 => ⟨by first | decide | omega | contradiction | exact absurd trivial (by assumption), ?_⟩⟩
    try (any_goals (exfalso; first | omega | exact absurd trivial (by assumption)))
    refine c_M_readWall ht hA.2.1 (fun e v1 n1 n2 => ?_) (fun E v1 n1 n2 n3 => ?_)
    · have he := hgd.1 e n1
      rw [n1] at K
      have fin := K v1 (fun b q => n2.1 b (by omega) (by omega)) (AM_FW n2 hA)
      refine ⟨fun q1 => ⟨fun q2 => ?_, fun q3 => ⟨by first | decide | omega | contradiction | exact absurd trivial (by assumption), ⟨fun q4 => ?_, fun q5 => ⟨by first | decide | omega | contradiction | exact absurd trivial (by assumption), by first | decide | omega | contradiction | exact absurd trivial (by assumption), ?_⟩⟩⟩⟩, fun q6 => ⟨by first | decide | omega | contradiction | exact absurd trivial (by assumption), by first | decide | omega | contradiction | exact absurd trivial (by assumption), ?_⟩⟩
      try (any_goals (exfalso; first | omega | exact absurd trivial (by assumption)))
      exact fin
    · obtain ⟨hd, hs⟩ := hgd.2 E n1
      rw [n1] at K
      have A1 := AM_FW n2 hA
      have F2 : ∀ b : Int, b ≠ 77 → (zupd v1 77 2 0) b = v1 b := fun b q => zup_a q
      have J2 : ∀ j : Int, j ≠ 2 → (zupd v1 77 2 0) 77 j = v1 77 j := fun j q => zup_j q
      have D2 : DM (zupd v1 77 2 0) E := by
        unfold DM KPm LTm
        rw [F2 88 (by omega), F2 89 (by omega), F2 90 (by omega), F2 91 (by omega), F2 92 (by omega), J2 22 (by omega), J2 23 (by omega), J2 24 (by omega), J2 25 (by omega)]
        exact n3
      have M2 : MS (zupd v1 77 2 0) (gS s) := MS_7 (S := gS s) F2 rfl (J2 13 (by omega)) ((J2 37 (by omega)).trans A1.1.1.2.2.2.2.2.2.1) ((J2 38 (by omega)).trans A1.1.1.2.2.2.2.2.2.2.1) A1.1.1.2.2.2.2.2
      refine ⟨fun q1 => ⟨fun q2 => ?_, fun q3 => ⟨by first | decide | omega | contradiction | exact absurd trivial (by assumption), ⟨fun q4 => ?_, fun q5 => ⟨by first | decide | omega | contradiction | exact absurd trivial (by assumption), by first | decide | omega | contradiction | exact absurd trivial (by assumption), ?_⟩⟩⟩⟩, fun q6 => ⟨by first | decide | omega | contradiction | exact absurd trivial (by assumption), by first | decide | omega | contradiction | exact absurd trivial (by assumption), ?_⟩⟩
      try (any_goals (exfalso; first | omega | exact absurd trivial (by assumption)))
      refine c_M_takeWall hd hs D2 hk M2 ((J2 39 (by omega)).trans A1.1.2.1) (fun v' a1 a2 a3 a4 a5 a6 => ?_)
      refine K v' (fun b q => by rw [a1 b (by omega) (by omega), F2 b (by omega)]; exact n2.1 b (by omega) (by omega)) ⟨a3, ⟨by rw [a2 2 (by omega) (by omega) (by omega) (by omega)]; exact zup_s, fun j j1 j2 => by have j2 : j < 0 := j2; omega⟩, ⟨a4, by show ([] : zPa).length ≤ 60; decide, fun i f h => by cases h⟩, ⟨a6, fun h => by cases h⟩, ⟨a5, fun j j1 j2 => by have j2 : j < 0 := j2; omega⟩⟩
  rw [if_neg h0, if_neg h0] at K
  by_cases h1 : k = 1
  rotate_left
  · rw [if_neg h1, if_neg h1] at K
    have fin := K v Fm_rf hA
    refine zC_at ok_M_text ck_M_text rfl rfl (sg_M_text_0 ?_)
    try simp (disch := omega) only [zup_e, zup_ak, zup_j, Int.zero_add, Int.reduceAdd, mz78, mz79, mz80, mz81, mz82, mz83, mz84, mz85, mz86, mz87, mz88, mz89, mz90, mz91, mz92, mz93, mz94, mz95, mz96, mz97, mz98, mz99, mz100, mz101, mz102, mz103, mz104, mz105, mz106, mz107, mz108, mz109, mz110, mz111, mz112, mz113]
    refine ⟨fun q1 => ⟨fun q2 => ?_, fun q3 => ⟨by first | decide | omega | contradiction | exact absurd trivial (by assumption), ⟨fun q4 => ?_, fun q5 => ⟨by first | decide | omega | contradiction | exact absurd trivial (by assumption), by first | decide | omega | contradiction | exact absurd trivial (by assumption), ?_⟩⟩⟩⟩, fun q6 => ⟨by first | decide | omega | contradiction | exact absurd trivial (by assumption), ?_⟩⟩
    try (any_goals (exfalso; first | omega | exact absurd trivial (by assumption)))
    exact fin
  rw [if_pos h1, if_pos h1] at K
  unfold gTextL aTextL at K
  have h13 := hMS.1
  have hk4 := hk.1
  by_cases hf : (kA (gS s)).length = 4
  · rw [if_pos hf, if_pos hf] at K
    have fin := K v Fm_rf hA
    refine zC_at ok_M_text ck_M_text rfl rfl (sg_M_text_0 ?_)
    try simp (disch := omega) only [zup_e, zup_ak, zup_j, Int.zero_add, Int.reduceAdd, mz78, mz79, mz80, mz81, mz82, mz83, mz84, mz85, mz86, mz87, mz88, mz89, mz90, mz91, mz92, mz93, mz94, mz95, mz96, mz97, mz98, mz99, mz100, mz101, mz102, mz103, mz104, mz105, mz106, mz107, mz108, mz109, mz110, mz111, mz112, mz113, h13]
    refine ⟨fun q1 => ⟨fun q2 => ?_, fun q3 => ⟨by first | decide | omega | contradiction | exact absurd trivial (by assumption), ⟨fun q4 => ?_, fun q5 => ⟨by first | decide | omega | contradiction | exact absurd trivial (by assumption), by first | decide | omega | contradiction | exact absurd trivial (by assumption), ?_⟩⟩⟩⟩, fun q6 => ⟨by first | decide | omega | contradiction | exact absurd trivial (by assumption), ?_⟩⟩
    try (any_goals (exfalso; first | omega | exact absurd trivial (by assumption)))
    exact fin
  rw [if_neg hf, if_neg hf] at K
  have hgd := pLaw_gd ht
  refine zC_at ok_M_text ck_M_text rfl rfl (sg_M_text_0 ?_)
  try simp (disch := omega) only [zup_e, zup_ak, zup_j, Int.zero_add, Int.reduceAdd, mz78, mz79, mz80, mz81, mz82, mz83, mz84, mz85, mz86, mz87, mz88, mz89, mz90, mz91, mz92, mz93, mz94, mz95, mz96, mz97, mz98, mz99, mz100, mz101, mz102, mz103, mz104, mz105, mz106, mz107, mz108, mz109, mz110, mz111, mz112, mz113, h13]
  refine ⟨fun q1 => ⟨fun q2 => ?_, fun q3 => ⟨by first | decide | omega | contradiction | exact absurd trivial (by assumption), ⟨fun q4 => ?_, fun q5 => ⟨by first | decide | omega | contradiction | exact absurd trivial (by assumption), by first | decide | omega | contradiction | exact absurd trivial (by assumption), ?_⟩⟩⟩⟩, fun q6 => ⟨by first | decide | omega | contradiction | exact absurd trivial (by assumption), ?_⟩⟩
  try (any_goals (exfalso; first | omega | exact absurd trivial (by assumption)))
  refine c_M_readLaw ht (by omega) hA.2.1 (fun e v1 n1 n2 => ?_) (fun P v1 n1 n2 n3 n4 => ?_)
  · have he := hgd.1 e n1
    rw [n1] at K
    have A1 : AM v1 s := AM_FLn ⟨by omega, by omega⟩ n2 hA
    have fin := K v1 (fun b q => n2.1 b (by omega)) A1
    refine ⟨fun q1 => ?_, fun q2 => ⟨by first | decide | omega | contradiction | exact absurd trivial (by assumption), by first | decide | omega | contradiction | exact absurd trivial (by assumption), ⟨by first | decide | omega | contradiction | exact absurd trivial (by assumption), by first | decide | omega | contradiction | exact absurd trivial (by assumption)⟩, by first | decide | omega | contradiction | exact absurd trivial (by assumption), by first | decide | omega | contradiction | exact absurd trivial (by assumption), ⟨by first | decide | omega | contradiction | exact absurd trivial (by assumption), by first | decide | omega | contradiction | exact absurd trivial (by assumption)⟩, ?_⟩⟩
    try (any_goals (exfalso; first | omega | exact absurd trivial (by assumption)))
    exact fin
  · obtain ⟨p1, p2⟩ := hgd.2 P n1
    rw [n1] at K
    have A1 := AM_FLn ⟨by omega, by omega⟩ n2 hA
    obtain ⟨⟨⟨hW, hM, hc, hO, hk', hS⟩, q2', q3'⟩, a2, a3, a4, a5⟩ := id A1
    have e13 : v1 77 13 = (kA (gS s)).length := hS.1
    have F2 : ∀ b : Int, b ≠ 77 → (zupd (zupd v1 77 2 0) 77 13 ((kA (gS s)).length + 1)) b = v1 b := fun b q => by rw [zup_a q, zup_a q]
    have J2 : ∀ j : Int, j ≠ 2 → j ≠ 13 → (zupd (zupd v1 77 2 0) 77 13 ((kA (gS s)).length + 1)) 77 j = v1 77 j := fun j q r => by rw [zup_j r, zup_j q]
    have fin := K (zupd (zupd v1 77 2 0) 77 13 ((kA (gS s)).length + 1)) (fun b q => by rw [F2 b (by omega)]; exact n2.1 b (by omega)) ⟨⟨⟨hW, MW_fr (fun j _ _ => J2 j (by omega) (by omega)) (F2 93 (by omega)) (fun o _ _ => by rw [F2 94 (by omega)]; exact ⟨rfl, rfl, rfl⟩) (F2 95 (by omega)) hM, hc, ⟨by rw [J2 36 (by omega) (by omega)]; exact hO.1, by rw [F2 97 (by omega), F2 96 (by omega)]; exact hO.2.1, by rw [J2 39 (by omega) (by omega), F2 94 (by omega)]; exact hO.2.2⟩, ⟨by show (kA (gS s) ++ [P]).length ≤ 4; rw [List.length_append]; show (kA (gS s)).length + 1 ≤ 4; omega, fun R hR => by
        have hR : R ∈ kA (gS s) ++ [P] := hR
        rcases List.mem_append.mp hR with h | h
        · exact hk'.2.1 R h
        · rw [List.mem_singleton.mp h]
          exact ⟨p1, by omega⟩, hk'.2.2.1, by show kH (gS s) < ((kA (gS s) ++ [P]).length : Nat); rw [List.length_append]; have := hk'.2.2.2; show kH (gS s) < (((kA (gS s)).length + 1 : Nat) : Int); omega⟩, ⟨by rw [zup_s]; show _ = (((kA (gS s) ++ [P]).length : Nat) : Int); rw [List.length_append]; show _ = (((kA (gS s)).length + 1 : Nat) : Int); omega, (J2 37 (by omega) (by omega)).trans hS.2.1, (J2 38 (by omega) (by omega)).trans hS.2.2.1, fun j R hR => by
        have hR : (kA (gS s) ++ [P])[j]? = some R := hR
        have base : v1 82 j = R.length ∧ MLc v1 j 0 0 R := by
          by_cases hj : j < (kA (gS s)).length
          · rw [List.getElem?_append_left hj] at hR
            exact hS.2.2.2 j R hR
          · rw [List.getElem?_append_right (by omega)] at hR
            have hj2 : j - (kA (gS s)).length = 0 := by
              by_cases q : j - (kA (gS s)).length = 0
              · exact q
              · rw [List.getElem?_eq_none (by show 1 ≤ _; omega)] at hR
                cases hR
            rw [hj2] at hR
            have hR : some P = some R := hR
            have ej : (j : Int) = ((kA (gS s)).length : Nat) := by omega
            rw [← Option.some.inj hR, ej]
            exact ⟨n3, n4⟩
        exact ⟨by rw [F2 82 (by omega)]; exact base.1, MLc_fr R 0 0 (fun j _ _ => by rw [F2 83 (by omega), F2 84 (by omega), F2 85 (by omega)]; exact ⟨rfl, rfl, rfl⟩) (fun j _ _ => by rw [F2 79 (by omega), F2 80 (by omega)]; exact ⟨rfl, rfl⟩) base.2⟩⟩⟩, (J2 39 (by omega) (by omega)).trans q2', q3'⟩, ⟨by rw [zup_j (by omega), zup_s]; rfl, fun j j1 j2 => by have j2 : j < 0 := j2; omega⟩, MPa_fr (J2 46 (by omega) (by omega)) (F2 102 (by omega)) a3, MIm_fr (J2 62 (by omega) (by omega)) (J2 61 (by omega) (by omega)) (F2 113 (by omega)) a4, MTo_fr (J2 56 (by omega) (by omega)) (F2 107 (by omega)) (F2 108 (by omega)) (F2 109 (by omega)) a5⟩
    show _
    simp (disch := omega) only [zup_j, zup_s, e13]
    have e1 : ((kA (gS s)).length : Int) + 1 - 1 = (kA (gS s)).length := by omega
    refine ⟨fun q1 => ?_, fun q2 => ⟨by first | decide | omega | contradiction | exact absurd trivial (by assumption), by first | decide | omega | contradiction | exact absurd trivial (by assumption), ⟨by first | decide | omega | contradiction | exact absurd trivial (by assumption), by first | decide | omega | contradiction | exact absurd trivial (by assumption)⟩, by first | decide | omega | contradiction | exact absurd trivial (by assumption), by first | decide | omega | contradiction | exact absurd trivial (by assumption), ⟨by first | decide | omega | contradiction | exact absurd trivial (by assumption), by first | decide | omega | contradiction | exact absurd trivial (by assumption)⟩, ?_⟩⟩
    try (any_goals (exfalso; first | omega | exact absurd trivial (by assumption)))
    rw [e1]
    exact fin
end
