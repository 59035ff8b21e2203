/-! THE CLASS: a law's clauses; fault, text -/
theorem tRn_nn {t : List Int} {b : Bool} (h : tRn t [] = some [b]) : t ≠ [] := fun e => by
  rw [e] at h
  cases h
def cF0 (c : zCl) : List Int := (if c.1 = [] then [] else c.1 ++ [-63]) ++ c.2
theorem pLawF_gd {X : zTp} (hX : X.2 ≤ 160) : ∀ (f : Nat) (p : Int) (acc : zLw), 0 ≤ p → p ≤ X.2 → X.2 - p < f → lTy acc → ((lFl acc).length : Int) ≤ p →
    (∀ e, pLawF X f p acc = .error e → 0 ≤ e ∧ e ≤ X.2) ∧ (∀ P, pLawF X f p acc = .ok P → lTy P ∧ ((lFl P).length : Int) ≤ X.2)
  | 0, p, acc, h0, h1, h2, h3, h4 => by omega
  | f + 1, p, acc, h0, h1, h2, h3, h4 => by
    obtain ⟨i1, i2⟩ := pClau_gd (X := X) (p := p) hX h0 h1
    unfold pLawF
    split
    · rename_i e he
      have := i1 e he
      exact ⟨fun e' h => (by cases h; omega), fun P h => (by cases h)⟩
    · rename_i q c he
      obtain ⟨g1, g2, g3, g4⟩ := i2 q c he
      have hb := pS_b (X := X) q
      have ht : lTy (acc ++ [c]) := fun x hx => by
        rw [List.mem_append, List.mem_singleton] at hx
        rcases hx with hx | hx
        · exact h3 x hx
        · rw [hx]; exact g4
      have hl : ((lFl (acc ++ [c])).length : Int) ≤ q := by
        rw [lFl_app, lFl_1, List.length_append]
        omega
      split
      · have hlt := pC_lt (X := X) (p := q) (by omega)
        exact pLawF_gd hX f (pS X q + 1) (acc ++ [c]) (by omega) (by omega) (by omega) ht (by omega)
      · split
        · exact ⟨fun e' h => (by cases h), fun P h => (by cases h; exact ⟨ht, by omega⟩)⟩
        · exact ⟨fun e' h => (by cases h; omega), fun P h => (by cases h)⟩
theorem pLaw_gd {X : zTp} (ht : tOk X) : (∀ e, pLaw X = .error e → 0 ≤ e ∧ e ≤ X.2) ∧ (∀ P, pLaw X = .ok P → lTy P ∧ ((lFl P).length : Int) ≤ X.2) := by
  have hn := ht.1
  exact pLawF_gd (by omega) _ 0 [] (by omega) (by omega) (by omega) (fun c h => by cases h) (by show (0 : Int) ≤ 0; omega)
section
variable {l : Launch} {G : zG} {d : Nat} {v : zH} {Q : Int → zH → Prop}
theorem c_LR_clause {X : zTp} {L p : Int} {ts : List Int} (ht : tOk X) (hL : zlo L) (hX : TP v X) (hW : LW v L ts) (hp : v 4 1 = p) (h0 : 0 ≤ p) (h1 : p ≤ X.2) (hts : (ts.length : Int) ≤ p)
    (Ke : ∀ (e : Int) (v' : zH), pClau X p = .error e → Fx L v v' → v' 4 1 = e → Q 0 v') (Ko : ∀ (q : Int) (c : zCl) (v' : zH), pClau X p = .ok (q, c) → Fx L v v' → v' 4 1 = q → LW v' L (ts ++ cF0 c) → Q 1 v') : zC l G 1 (d + 27) h_LR_clause [(2, 4), (2, L)] v 115 Q := by
  have hn1 := ht.1
  have hb := pS_b (X := X) p
  have h9 : 9 ≤ L := by rcases hL with rfl | rfl | rfl | rfl | rfl <;> omega
  obtain ⟨f1, f2, f3, f4, f5⟩ := zlo_f hL
  unfold pClau at Ke Ko
  refine zC_at ok_LR_clause ck_LR_clause rfl rfl (sg_LR_clause_0 ?_)
  refine ⟨by first | decide | omega, ?_⟩
  try (any_goals (exfalso; first | omega | exact absurd trivial (by assumption)))
  refine c_LR_takes ht hX hp h0 h1 (by omega) (fun c v1 s1 s2 => ?_) (fun c v1 s1 s2 => ?_)
  rotate_left
  · rw [if_neg c] at Ke
    refine ⟨fun q1 => ⟨by first | decide | omega, ?_⟩, fun q2 => ⟨by first | decide | omega, ?_⟩⟩
    try (any_goals (exfalso; first | omega | exact absurd trivial (by assumption)))
    exact Ke _ v1 rfl (Fx_4 s1) s2
  rw [if_pos c] at Ke Ko
  have hlt := pC_lt (X := X) (p := p) (by omega)
  have hb2 := pS_b (X := X) (pS X p + 1)
  have hX1 := Fx_TP hL (Fx_4 s1) hX
  refine ⟨fun q1 => ⟨by first | decide | omega, ?_⟩, fun q2 => ⟨by first | decide | omega, ?_⟩⟩
  try (any_goals (exfalso; first | omega | exact absurd trivial (by assumption)))
  refine c_LR_takes ht hX1 s2 (by omega) (by omega) (by omega) (fun c2 v2 t1 t2 => ?_) (fun c2 v2 t1 t2 => ?_)
  rotate_left
  · rw [if_neg c2] at Ke
    refine ⟨fun q1 => ⟨by first | decide | omega, ?_⟩, fun q2 => ⟨by first | decide | omega, ?_⟩⟩
    try (any_goals (exfalso; first | omega | exact absurd trivial (by assumption)))
    exact Ke _ v2 rfl (Fx_tr (Fx_4 s1) (Fx_4 t1)) t2
  rw [if_pos c2] at Ke Ko
  have hlt2 := pC_lt (X := X) (p := pS X p + 1) (by omega)
  have hX2 := Fx_TP hL (Fx_4 t1) hX1
  have hW2 := LW_4 hL t1 (LW_4 hL s1 hW)
  have hF2 : Fx L v v2 := Fx_tr (Fx_4 s1) (Fx_4 t1)
  have hp2 : 2 ≤ pS X (pS X p + 1) + 1 := by omega
  have hp3 : pS X (pS X p + 1) + 1 ≤ X.2 := by omega
  have hp4 : (ts.length : Int) + 2 ≤ pS X (pS X p + 1) + 1 := by omega
  generalize pS X (pS X p + 1) + 1 = a at Ke Ko t2 hp2 hp3 hp4
  clear hlt2 hb2 hlt hb c c2
  have hb := pS_b (X := X) a
  unfold pBody at Ke Ko
  refine ⟨fun q1 => ⟨by first | decide | omega, ?_⟩, fun q2 => ⟨by first | decide | omega, ?_⟩⟩
  try (any_goals (exfalso; first | omega | exact absurd trivial (by assumption)))
  refine c_LR_sign ht hX2 t2 (by omega) hp3 (fun v3 u1 u2 => ?_)
  have hX3 := Fx_TP hL (Fx_4 u1) hX2
  have hW3 := LW_4 hL u1 hW2
  have hF3 := Fx_tr hF2 (Fx_4 u1)
  by_cases c33 : pC X a = 33
  · rw [if_pos (Or.inl c33)] at Ke Ko
    refine ⟨fun q1 => ⟨fun q2 => ⟨by first | decide | omega, ?_⟩, fun q3 => ⟨by first | decide | omega, ?_⟩⟩, fun q4 => ⟨by first | decide | omega, ?_⟩⟩
    try (any_goals (exfalso; first | omega | exact absurd trivial (by assumption)))
    have hgd := (pCond_gd (pUc_gd (X := X) 6)) (pS X a) (by omega) (by omega)
    refine c_LR_cond0 ht L ts (pS X a) _ _ hL hX3 hW3 u2 (by omega) (by omega) (by omega) (fun e v4 n1 n2 n3 => ?_) (fun q t v4 n1 n2 n3 n4 => ?_)
    · simp only [n1] at Ke
      refine ⟨fun q1 => ⟨by first | decide | omega, ?_⟩, fun q2 => ⟨by first | decide | omega, ?_⟩⟩
      try (any_goals (exfalso; first | omega | exact absurd trivial (by assumption)))
      exact Ke e v4 rfl (Fx_tr hF3 n2) n3
    · obtain ⟨g1, g2, g3, g4⟩ := hgd.2 q t n1
      have hne := tRn_nn (g4 [] (by simp; omega))
      simp only [n1] at Ke Ko
      have hX4 := Fx_TP hL n2 hX3
      have hF4 := Fx_tr hF3 n2
      have hbq := pS_b (X := X) q
      unfold pQu at Ke Ko
      refine ⟨fun q1 => ⟨by first | decide | omega, ?_⟩, fun q2 => ⟨by first | decide | omega, ?_⟩⟩
      try (any_goals (exfalso; first | omega | exact absurd trivial (by assumption)))
      refine c_LR_takes ht hX4 n3 (by omega) g2 (by omega) (fun c v5 s1 s2 => ?_) (fun c v5 s1 s2 => ?_)
      · rw [if_pos c] at Ke Ko
        have hltq := pC_lt (X := X) (p := q) (by omega)
        refine ⟨fun q1 => ⟨by first | decide | omega, ?_⟩, fun q2 => ⟨by first | decide | omega, ?_⟩⟩
        try (any_goals (exfalso; first | omega | exact absurd trivial (by assumption)))
        refine c_La_addSign hL (LW_4 hL s1 n4) (by simp; omega) (by omega) (fun v6 m1 m2 => ?_)
        have hq6 : v6 4 1 = pS X q + 1 := by rw [m1 4 (by omega) (by omega)]; exact s2
        refine ⟨by first | decide | omega, ?_⟩
        refine c_LR_sum0 ht L (ts ++ t ++ [-63]) (pS X q + 1) _ _ hL (Fx_TP hL (Fx_tr (Fx_4 s1) (Fx_L m1)) hX4) m2 hq6 (by omega) (by omega) (by simp; omega) (fun e v7 w1 w2 w3 => ?_) (fun r u v7 w1 w2 w3 w4 => ?_)
        · simp only [w1] at Ke
          refine ⟨by first | decide | omega, ?_⟩
          exact Ke e v7 rfl (Fx_tr hF4 (Fx_tr (Fx_4 s1) (Fx_tr (Fx_L m1) w2))) w3
        · simp only [w1] at Ko
          refine ⟨by first | decide | omega, ?_⟩
          refine Ko r _ v7 rfl (Fx_tr hF4 (Fx_tr (Fx_4 s1) (Fx_tr (Fx_L m1) w2))) w3 ?_
          have ec : cF0 (t, u) = t ++ [-63] ++ u := by
            unfold cF0
            rw [if_neg hne]
          rw [ec, ← List.append_assoc, ← List.append_assoc]
          exact w4
      · rw [if_neg c] at Ke
        refine ⟨fun q1 => ⟨by first | decide | omega, ?_⟩, fun q2 => ⟨by first | decide | omega, ?_⟩⟩
        try (any_goals (exfalso; first | omega | exact absurd trivial (by assumption)))
        exact Ke _ v5 rfl (Fx_tr hF4 (Fx_4 s1)) s2
  have c33' := c33
  refine ⟨fun q1 => ⟨fun q2 => ⟨by first | decide | omega, ?_⟩, fun q3 => ⟨by first | decide | omega, ?_⟩⟩, fun q4 => ⟨by first | decide | omega, ?_⟩⟩
  try (any_goals (exfalso; first | omega | exact absurd trivial (by assumption)))
  refine c_LR_sign ht hX3 u2 (by omega) (by omega) (fun v3 w1 w2 => ?_)
  rw [pC_i]
  rw [pS_i] at w2
  have hX3 := Fx_TP hL (Fx_4 w1) hX3
  have hW3 := LW_4 hL w1 hW3
  have hF3 := Fx_tr hF3 (Fx_4 w1)
  by_cases c40 : pC X a = 40
  · rw [if_pos (Or.inr c40)] at Ke Ko
    refine ⟨fun q1 => ⟨fun q2 => ⟨by first | decide | omega, ?_⟩, fun q3 => ⟨by first | decide | omega, ?_⟩⟩, fun q4 => ⟨fun q5 => ⟨by first | decide | omega, ?_⟩, fun q6 => ⟨by first | decide | omega, ?_⟩⟩⟩
    try (any_goals (exfalso; first | omega | exact absurd trivial (by assumption)))
    have hgd := (pCond_gd (pUc_gd (X := X) 6)) (pS X a) (by omega) (by omega)
    refine c_LR_cond0 ht L ts (pS X a) _ _ hL hX3 hW3 w2 (by omega) (by omega) (by omega) (fun e v4 n1 n2 n3 => ?_) (fun q t v4 n1 n2 n3 n4 => ?_)
    · simp only [n1] at Ke
      refine ⟨fun q1 => ⟨by first | decide | omega, ?_⟩, fun q2 => ⟨by first | decide | omega, ?_⟩⟩
      try (any_goals (exfalso; first | omega | exact absurd trivial (by assumption)))
      exact Ke e v4 rfl (Fx_tr hF3 n2) n3
    · obtain ⟨g1, g2, g3, g4⟩ := hgd.2 q t n1
      have hne := tRn_nn (g4 [] (by simp; omega))
      simp only [n1] at Ke Ko
      have hX4 := Fx_TP hL n2 hX3
      have hF4 := Fx_tr hF3 n2
      have hbq := pS_b (X := X) q
      unfold pQu at Ke Ko
      refine ⟨fun q1 => ⟨by first | decide | omega, ?_⟩, fun q2 => ⟨by first | decide | omega, ?_⟩⟩
      try (any_goals (exfalso; first | omega | exact absurd trivial (by assumption)))
      refine c_LR_takes ht hX4 n3 (by omega) g2 (by omega) (fun c v5 s1 s2 => ?_) (fun c v5 s1 s2 => ?_)
      · rw [if_pos c] at Ke Ko
        have hltq := pC_lt (X := X) (p := q) (by omega)
        refine ⟨fun q1 => ⟨by first | decide | omega, ?_⟩, fun q2 => ⟨by first | decide | omega, ?_⟩⟩
        try (any_goals (exfalso; first | omega | exact absurd trivial (by assumption)))
        refine c_La_addSign hL (LW_4 hL s1 n4) (by simp; omega) (by omega) (fun v6 m1 m2 => ?_)
        have hq6 : v6 4 1 = pS X q + 1 := by rw [m1 4 (by omega) (by omega)]; exact s2
        refine ⟨by first | decide | omega, ?_⟩
        refine c_LR_sum0 ht L (ts ++ t ++ [-63]) (pS X q + 1) _ _ hL (Fx_TP hL (Fx_tr (Fx_4 s1) (Fx_L m1)) hX4) m2 hq6 (by omega) (by omega) (by simp; omega) (fun e v7 w1 w2 w3 => ?_) (fun r u v7 w1 w2 w3 w4 => ?_)
        · simp only [w1] at Ke
          refine ⟨by first | decide | omega, ?_⟩
          exact Ke e v7 rfl (Fx_tr hF4 (Fx_tr (Fx_4 s1) (Fx_tr (Fx_L m1) w2))) w3
        · simp only [w1] at Ko
          refine ⟨by first | decide | omega, ?_⟩
          refine Ko r _ v7 rfl (Fx_tr hF4 (Fx_tr (Fx_4 s1) (Fx_tr (Fx_L m1) w2))) w3 ?_
          have ec : cF0 (t, u) = t ++ [-63] ++ u := by
            unfold cF0
            rw [if_neg hne]
          rw [ec, ← List.append_assoc, ← List.append_assoc]
          exact w4
      · rw [if_neg c] at Ke
        refine ⟨fun q1 => ⟨by first | decide | omega, ?_⟩, fun q2 => ⟨by first | decide | omega, ?_⟩⟩
        try (any_goals (exfalso; first | omega | exact absurd trivial (by assumption)))
        exact Ke _ v5 rfl (Fx_tr hF4 (Fx_4 s1)) s2
  rw [if_neg (fun r => r.elim c33 c40)] at Ke Ko
  refine ⟨fun q1 => ⟨fun q2 => ⟨by first | decide | omega, ?_⟩, fun q3 => ⟨by first | decide | omega, ?_⟩⟩, fun q4 => ⟨fun q5 => ⟨by first | decide | omega, ?_⟩, fun q6 => ⟨by first | decide | omega, ?_⟩⟩⟩
  try (any_goals (exfalso; first | omega | exact absurd trivial (by assumption)))
  have hgd0 := (pSumL_gd (X := X) (k := 6)) (pS X a) (by omega) (by omega)
  refine c_LR_sum0 ht L ts (pS X a) _ _ hL hX3 hW3 w2 (by omega) (by omega) (by omega) (fun e v4 n1 n2 n3 => ?_) (fun q0 t0 v4 n1 n2 n3 n4 => ?_)
  · simp only [n1] at Ke
    refine ⟨fun q1 => ⟨by first | decide | omega, ?_⟩, fun q2 => ⟨by first | decide | omega, ?_⟩⟩
    try (any_goals (exfalso; first | omega | exact absurd trivial (by assumption)))
    exact Ke e v4 rfl (Fx_tr hF3 n2) n3
  obtain ⟨k1, k2, k3, k4⟩ := hgd0.2 q0 t0 n1
  have hne0 := tRn_nn (k4 [] (by simp; omega))
  have hbq := pS_b (X := X) q0
  simp only [n1] at Ke Ko
  have hX4 := Fx_TP hL n2 hX3
  have hF4 := Fx_tr hF3 n2
  refine ⟨fun q1 => ⟨by first | decide | omega, ?_⟩, fun q2 => ⟨by first | decide | omega, ?_⟩⟩
  try (any_goals (exfalso; first | omega | exact absurd trivial (by assumption)))
  refine c_LR_sign ht hX4 n3 (by omega) k2 (fun v5 m1 m2 => ?_)
  have hX5 := Fx_TP hL (Fx_4 m1) hX4
  have hF5 := Fx_tr hF4 (Fx_4 m1)
  have hW5 := LW_4 hL m1 n4
  refine c_LR_compares ?_
  by_cases cc : isCmp (pC X q0) = true
  rotate_left
  · rw [if_neg cc] at Ko
    rw [if_neg cc]
    refine ⟨fun q1 => ⟨by first | decide | omega, ?_⟩, fun q2 => ⟨by first | decide | omega, ?_⟩⟩
    try (any_goals (exfalso; first | omega | exact absurd trivial (by assumption)))
    exact Ko _ _ v5 rfl hF5 m2 (by rw [show cF0 (([] : List Int), t0) = t0 from rfl]; exact hW5)
  have hpp : pCmp X (pSumL X 6) q0 t0 = pCmp X (pSumL X 6) (pS X q0) t0 := by
    unfold pCmp
    rw [pC_i, pS_i]
  rw [if_pos cc, hpp] at Ke Ko
  have eB := pBody_B (X := X) (q := pS X q0) (t := t0) (q0 := pS X q0) rfl
  replace Ke : ∀ (e : Int) (v' : zH), ((match pCondB X (pS X q0) with
      | .error e => .error e
      | .ok (r, u) => pQu X r (t0 ++ u)) : zPx zCl) = .error e → Fx L v v' → v' 4 1 = e → Q 0 v' := fun e v' h => Ke e v' (eB.trans h)
  replace Ko : ∀ (q : Int) (c : zCl) (v' : zH), ((match pCondB X (pS X q0) with
      | .error e => .error e
      | .ok (r, u) => pQu X r (t0 ++ u)) : zPx zCl) = .ok (q, c) → Fx L v v' → v' 4 1 = q → LW v' L (ts ++ cF0 c) → Q 1 v' := fun q c v' h => Ko q c v' (eB.trans h)
  rw [if_pos cc]
  refine ⟨fun q1 => ⟨by first | decide | omega, ?_⟩, fun q2 => ⟨by first | decide | omega, ?_⟩⟩
  try (any_goals (exfalso; first | omega | exact absurd trivial (by assumption)))
  have hgd := (pSep2_gl (fun _ h => (sep_or h).1) (pSep2_gl (fun _ h => (sep_and h).1) (pUnitB_gl (X := X) (k := 6)) (pGd_l (pUc_gd 6))) (pGd_l (pSep_gd (fun _ h => sep_and h) (pUc_gd 6)))) (pS X q0) (by omega) (by omega)
  refine c_LR_condB ht L (ts ++ t0) (pS X q0) _ _ hL hX5 hW5 m2 (by omega) (by omega) (by simp; omega) (fun e v4 n1 n2 n3 => ?_) (fun q u v4 n1 n2 n3 n4 => ?_)
  · simp only [n1] at Ke
    refine ⟨fun q1 => ⟨by first | decide | omega, ?_⟩, fun q2 => ⟨by first | decide | omega, ?_⟩⟩
    try (any_goals (exfalso; first | omega | exact absurd trivial (by assumption)))
    exact Ke e v4 rfl (Fx_tr hF5 n2) n3
  · obtain ⟨g1, g2, g3⟩ := hgd.2 q u n1
    simp only [n1] at Ke Ko
    rw [List.append_assoc] at n4
    have hne : t0 ++ u ≠ [] := fun r => hne0 (List.append_eq_nil_iff.mp r).1
    have hX3 := hX5
    have hF3 := hF5
    have g3 : ((t0 ++ u).length : Int) ≤ q - a := by simp; omega
    generalize t0 ++ u = t at Ke Ko n4 hne g3
    have hX4 := Fx_TP hL n2 hX3
    have hF4 := Fx_tr hF3 n2
    have hbq := pS_b (X := X) q
    unfold pQu at Ke Ko
    refine ⟨fun q1 => ⟨by first | decide | omega, ?_⟩, fun q2 => ⟨by first | decide | omega, ?_⟩⟩
    try (any_goals (exfalso; first | omega | exact absurd trivial (by assumption)))
    refine c_LR_takes ht hX4 n3 (by omega) g2 (by omega) (fun c v5 s1 s2 => ?_) (fun c v5 s1 s2 => ?_)
    · rw [if_pos c] at Ke Ko
      have hltq := pC_lt (X := X) (p := q) (by omega)
      refine ⟨fun q1 => ⟨by first | decide | omega, ?_⟩, fun q2 => ⟨by first | decide | omega, ?_⟩⟩
      try (any_goals (exfalso; first | omega | exact absurd trivial (by assumption)))
      refine c_La_addSign hL (LW_4 hL s1 n4) (by simp; omega) (by omega) (fun v6 m1 m2 => ?_)
      have hq6 : v6 4 1 = pS X q + 1 := by rw [m1 4 (by omega) (by omega)]; exact s2
      refine ⟨by first | decide | omega, ?_⟩
      refine c_LR_sum0 ht L (ts ++ t ++ [-63]) (pS X q + 1) _ _ hL (Fx_TP hL (Fx_tr (Fx_4 s1) (Fx_L m1)) hX4) m2 hq6 (by omega) (by omega) (by simp; omega) (fun e v7 w1 w2 w3 => ?_) (fun r u v7 w1 w2 w3 w4 => ?_)
      · simp only [w1] at Ke
        refine ⟨by first | decide | omega, ?_⟩
        exact Ke e v7 rfl (Fx_tr hF4 (Fx_tr (Fx_4 s1) (Fx_tr (Fx_L m1) w2))) w3
      · simp only [w1] at Ko
        refine ⟨by first | decide | omega, ?_⟩
        refine Ko r _ v7 rfl (Fx_tr hF4 (Fx_tr (Fx_4 s1) (Fx_tr (Fx_L m1) w2))) w3 ?_
        have ec : cF0 (t, u) = t ++ [-63] ++ u := by
          unfold cF0
          rw [if_neg hne]
        rw [ec, ← List.append_assoc, ← List.append_assoc]
        exact w4
    · rw [if_neg c] at Ke
      refine ⟨fun q1 => ⟨by first | decide | omega, ?_⟩, fun q2 => ⟨by first | decide | omega, ?_⟩⟩
      try (any_goals (exfalso; first | omega | exact absurd trivial (by assumption)))
      exact Ke _ v5 rfl (Fx_tr hF4 (Fx_4 s1)) s2
theorem lf_7 {X : zTp} {L : Int} {v0 : zH} {R : Except Int zLw} {QX : Nat → zH → Prop} (ht : tOk X) (hL : zlo L)
    (Ke : ∀ (e : Int) (v' : zH), R = .error e → Fx L v0 v' → Q e v') (Ko : ∀ (P : zLw) (v' : zH), R = .ok P → Fx L v0 v' → LW v' L (lFl P) → Q (-1) v') :
    ∀ (f : Nat) {v : zH} {q i : Int} {acc : zLw}, TP v X → Fx L v0 v → v 4 1 = q → 0 ≤ q → q ≤ X.2 → X.2 - q < f → 0 ≤ i → i ≤ q → LW v L (lFl acc) → ((lFl acc).length : Int) ≤ q → R = pLawF X f q acc →
    zJ l G 1 (d + 28) h_LR_faultOf k_LR_faultOf 115 Q QX 7 [(2, 4), (2, L), (0, i)] [] v 115
  | 0, v, q, i, acc, hX, hF, hq, h0, h1, hf, hi0, hi, hW, hl, hR => by omega
  | f + 1, v, q, i, acc, hX, hF, hq, h0, h1, hf, hi0, hi, hW, hl, hR => by
    have hn1 := ht.1
    have h9 : 9 ≤ L := by rcases hL with rfl | rfl | rfl | rfl | rfl <;> omega
    obtain ⟨f1, f2, f3, f4, f5⟩ := zlo_f hL
    have e41 : (4 + (-3) : Int) = 1 := rfl
    have hgd := pClau_gd (X := X) (p := q) (by omega) h0 h1
    unfold pLawF at hR
    refine zgo ck_LR_faultOf 300 7 _ _ _ _ rfl (sg_LR_faultOf_7 ?_)
    simp only [e41, hX.1]
    refine ⟨by first | decide | omega, by first | decide | omega, ⟨fun q1 => ⟨by first | decide | omega, ?_⟩, fun q2 => ⟨by first | decide | omega, ?_⟩⟩⟩
    try (any_goals (exfalso; first | omega | exact absurd trivial (by assumption)))
    refine c_LR_clause ht hL hX hW hq h0 h1 hl (fun e v1 n1 n2 n3 => ?_) (fun p1 c v1 n1 n2 n3 n4 => ?_)
    · rw [n1] at hR
      simp only [n3]
      refine ⟨fun q1 => ⟨by first | decide | omega, ?_⟩, fun q2 => ⟨by first | decide | omega, ?_⟩⟩
      try (any_goals (exfalso; first | omega | exact absurd trivial (by assumption)))
      exact Ke e v1 hR (Fx_tr hF n2)
    · obtain ⟨a1, a2, a3, a4⟩ := hgd.2 p1 c n1
      have hb := pS_b (X := X) p1
      rw [n1] at hR
      simp only at hR
      have hcf : cFl c = cF0 c ++ [-59] := rfl
      have hcl : (cFl c).length = (cF0 c).length + 1 := by rw [hcf, List.length_append]; rfl
      have hX1 := Fx_TP hL n2 hX
      refine ⟨fun q1 => ⟨by first | decide | omega, ?_⟩, fun q2 => ⟨by first | decide | omega, ?_⟩⟩
      try (any_goals (exfalso; first | omega | exact absurd trivial (by assumption)))
      refine c_La_addSign hL n4 (by simp; omega) (by omega) (fun v2 m1 m2 => ?_)
      rw [List.append_assoc, ← hcf, ← lFl_1, ← lFl_app] at m2
      have hX2 := Fx_TP hL (Fx_L m1) hX1
      have hq2 : v2 4 1 = p1 := by rw [m1 4 (by omega) (by omega)]; exact n3
      have hF2 := Fx_tr hF (Fx_tr n2 (Fx_L m1))
      have hl2 : ((lFl (acc ++ [c])).length : Int) ≤ p1 := by
        rw [lFl_app, lFl_1, List.length_append]
        omega
      refine ⟨by first | decide | omega, ?_⟩
      try (any_goals (exfalso; first | omega | exact absurd trivial (by assumption)))
      refine c_LR_takes ht hX2 hq2 (by omega) a2 (by omega) (fun c1 v3 s1 s2 => ?_) (fun c1 v3 s1 s2 => ?_)
      · rw [if_pos c1] at hR
        have hlt := pC_lt (X := X) (p := p1) (by omega)
        refine ⟨fun q1 => ⟨⟨by first | decide | omega, by first | decide | omega⟩, ?_⟩, fun q2 => ⟨by first | decide | omega, ?_⟩⟩
        try (any_goals (exfalso; first | omega | exact absurd trivial (by assumption)))
        exact lf_7 ht hL Ke Ko f (Fx_TP hL (Fx_4 s1) hX2) (Fx_tr hF2 (Fx_4 s1)) s2 (by omega) (by omega) (by omega) (by omega) (by omega) (LW_4 hL s1 m2) (by omega) hR
      · rw [if_neg c1] at hR
        refine ⟨fun q1 => ⟨⟨by first | decide | omega, by first | decide | omega⟩, ?_⟩, fun q2 => ⟨by first | decide | omega, ?_⟩⟩
        try (any_goals (exfalso; first | omega | exact absurd trivial (by assumption)))
        refine c_LR_sign ht (Fx_TP hL (Fx_4 s1) hX2) s2 (by omega) (by omega) (fun v4 t1 t2 => ?_)
        rw [pS_i] at t2
        rw [pC_i]
        have hF4 := Fx_tr hF2 (Fx_tr (Fx_4 s1) (Fx_4 t1))
        simp only [t2]
        by_cases ce : pC X p1 = -1
        · rw [if_pos ce] at hR
          refine ⟨fun q1 => ⟨by first | decide | omega, ?_⟩, fun q2 => ?_⟩
          try (any_goals (exfalso; first | omega | exact absurd trivial (by assumption)))
          exact Ko _ v4 hR hF4 (LW_4 hL t1 (LW_4 hL s1 m2))
        · rw [if_neg ce] at hR
          refine ⟨fun q1 => ⟨by first | decide | omega, ?_⟩, fun q2 => ?_⟩
          try (any_goals (exfalso; first | omega | exact absurd trivial (by assumption)))
          exact Ke _ v4 hR hF4
theorem c_LR_faultOf {X : zTp} {L : Int} (ht : tOk X) (hL : zlo L) (hX : TP v X) (Ke : ∀ (e : Int) (v' : zH), pLaw X = .error e → Fx L v v' → Q e v') (Ko : ∀ (P : zLw) (v' : zH), pLaw X = .ok P → Fx L v v' → LW v' L (lFl P) → Q (-1) v') : zC l G 1 (d + 28) h_LR_faultOf [(2, 4), (2, L)] v 115 Q := by
  have hn1 := ht.1
  have h9 : 9 ≤ L := by rcases hL with rfl | rfl | rfl | rfl | rfl <;> omega
  obtain ⟨f1, f2, f3, f4, f5⟩ := zlo_f hL
  refine zC_at ok_LR_faultOf ck_LR_faultOf rfl rfl (sg_LR_faultOf_0 ?_)
  refine ⟨by first | decide | omega, by first | decide | omega, ?_⟩
  refine zC_at ok_La_clear ck_La_clear rfl rfl (sg_La_clear_0 ?_)
  refine ⟨by first | decide | omega, by first | decide | omega, by first | decide | omega, ?_⟩
  have hF : Fx L v (zupd (zupd (zupd v 4 1 0) L 2 0) L 3 0) := fun b r1 r2 r3 => (zup_a r2).trans ((zup_a r2).trans (zup_a r1))
  refine lf_7 ht hL Ke Ko (X.2.toNat + 1) (q := 0) (acc := []) (Fx_TP hL hF hX) hF ?_ (by omega) (by omega) (by omega) (by omega) (by omega) ⟨?_, trivial, ?_⟩ (by show (0 : Int) ≤ 0; omega) rfl
  · rw [zup_a (by omega), zup_a (by omega)]
    exact zup_s
  · rw [zup_j (by omega)]
    exact zup_s
  · rw [zup_s, if_neg]
    exact fun r => by cases r
end
