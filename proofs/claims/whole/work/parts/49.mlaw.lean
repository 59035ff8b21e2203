/-! THE REFERENCE: a law's sums read -/
def ME (v : zH) (X : zTp) (n m e k bE : Int) : Prop := (0 ≤ v 77 3 ∧ v 77 3 ≤ X.2 + 1 + k) ∧ v 77 4 = e ∧ (6 - k ≤ v 77 5 ∧ v 77 5 ≤ 7 - k) ∧ (m ≤ v 81 n ∧ v 81 n ≤ X.2 + bE)
def Mo (v : zH) (n q k m : Int) : Prop := v 77 3 = q ∧ v 77 4 = -1 ∧ v 77 5 = 6 - k ∧ v 81 n = m
/-- a method that reads on: its contract -/
def MRc (l : Launch) (G : zG) (X : zTp) (D : Nat) (h : zHdr) (it : zPs) (k bE : Int) : Prop :=
  ∀ (n p m : Int) (v : zH) (Q : Int → zH → Prop), (0 ≤ n ∧ n ≤ 4) → TM v X → v 77 14 = n → Mo v n p k m → 0 ≤ p → p ≤ X.2 → (0 ≤ m ∧ m ≤ p) →
  (∀ (e : Int) (v' : zH), it p = .error e → FM n m v v' → ME v' X n m e k bE → Q 0 v') → (∀ (q : Int) (t : List Int) (v' : zH), it p = .ok (q, t) → FM n m v v' → Mo v' n q k (m + t.length) → MR v' (340 * n + m) t → Q 0 v') → zC l G 1 D h [(2, 77)] v 115 Q
theorem Mo_A {v v' : zH} {n q q' k m : Int} (h : Mo v n q k m) (f : FA v v') (hq : v' 77 3 = q') : Mo v' n q' k m := ⟨hq, by rw [f.2 4 (by omega)]; exact h.2.1, by rw [f.2 5 (by omega)]; exact h.2.2.1, by rw [f.1 81 (by omega)]; exact h.2.2.2⟩
theorem Mo_up {v : zH} {n q q' k m : Int} (h : Mo v n q k m) : Mo (zupd v 77 3 q') n q' k m := Mo_A h FA_up zup_s
theorem h14_M {v v' : zH} {n m x : Int} (h : FM n m v v') (e : v 77 14 = x) : v' 77 14 = x := by rw [h.2.1 14 (by omega) (by omega) (by omega)]; exact e
theorem MR_put {v v' : zH} {n m c : Int} {acc : List Int} (h : MR v (340 * n + m) acc) (h1 : v' 79 (340 * n + (m + acc.length)) = mC c) (h2 : v' 80 (340 * n + (m + acc.length)) = mV c) (h3 : ∀ j : Int, j ≠ 340 * n + (m + acc.length) → v' 79 j = v 79 j ∧ v' 80 j = v 80 j) : MR v' (340 * n + m) (acc ++ [c]) := by
  rw [MR_app]
  refine ⟨MR_fr acc _ (fun j j1 j2 => h3 j (by omega)) h, ?_, ?_, trivial⟩
  · rw [show 340 * n + m + (acc.length : Int) = 340 * n + (m + acc.length) by omega]; exact h1
  · rw [show 340 * n + m + (acc.length : Int) = 340 * n + (m + acc.length) by omega]; exact h2
theorem MR_join {v v' : zH} {n m : Int} {acc t : List Int} (h : MR v (340 * n + m) acc) (hf : FM n (m + acc.length) v v') (ht : MR v' (340 * n + (m + acc.length)) t) : MR v' (340 * n + m) (acc ++ t) := by
  rw [MR_app]
  refine ⟨MR_fr acc _ (fun j j1 j2 => hf.2.2.2 j (by omega)) h, ?_⟩
  rw [show 340 * n + m + (acc.length : Int) = 340 * n + (m + acc.length) by omega]
  exact ht
theorem isDg_pDi {X : zTp} {p : Int} : isDg (pC X p) = pDi X (pS X p) := by
  rw [Bool.eq_iff_iff, isDg_iff, pDi_iff]
  unfold pC
  split <;> omega
section
variable {l : Launch} {G : zG} {d : Nat} {v : zH} {Q : Int → zH → Prop}
theorem c_M_atom {X : zTp} {k D : Nat} (hk : k ≤ 6) (ht : tOk X) (hs : ∀ k' : Nat, k = k' + 1 → MRc l G X (D + 3) h_M_sum (pSum X (pBr X k')) k' (3 + 2 * (k' : Int))) : MRc l G X (D + 4) h_M_atom (pAtom X (pBr X k)) k (1 + 2 * (k : Int)) := by
  intro n p m v Q hn hX h14 hM h0 h1 hm Ke Ko
  have hn1 := ht.1
  have hb := pS_b (X := X) p
  have hcn := pC_nn (p := p) ht h0
  have hM0 := hM
  obtain ⟨m1, m2, m3, m4⟩ := hM
  have hdg := isDg_pDi (X := X) (p := p)
  unfold pAtom at Ke Ko
  refine zC_at ok_M_atom ck_M_atom rfl rfl (sg_M_atom_0 ?_)
  try simp (disch := omega) only [zup_e, zup_ak, zup_j, Int.zero_add, Int.reduceAdd, mz78, mz79, mz80, mz81, mz82, mz83, mz84, mz85, mz86, mz87, mz88, mz89, mz90, mz91, mz92, mz93, mz94, mz95, mz96, mz97, mz98, mz99, mz100, mz101, mz102, mz103, mz104, mz105, mz106, mz107, mz108, mz109, mz110, mz111, mz112, mz113]
  refine ⟨by first | decide | omega, ?_⟩
  try (any_goals (exfalso; first | omega | exact absurd trivial (by assumption)))
  refine c_M_look ht hX m1 h0 h1 (fun v1 f1 f2 => ?_)
  have hM1 := Mo_A hM0 f1 f2
  have hX1 := TM_A f1 hX
  have h141 : v1 77 14 = n := by rw [f1.2 14 (by omega)]; exact h14
  refine c_M_isDigit ?_
  by_cases hd : isDg (pC X p) = true
  · rw [if_pos hd]
    have hd' := isDg_iff.mp hd
    have hlt := pC_lt (X := X) (p := p) (by omega)
    have nl : ¬ isLet (pC X p) = true := by rw [isLet_iff]; omega
    have en : pNm X 4 (pS X p) = pDg X 4 (pS X p) 0 := by
      unfold pNm
      rw [pS_i, ← hdg, if_pos hd]
    rw [if_neg (by omega), if_neg nl, en] at Ke Ko
    have hgd := pDg_b (X := X) 4 (pS X p) 0 (by omega) (by omega)
    refine ⟨fun q1 => ?_, fun q2 => ⟨by first | decide | omega, ?_⟩⟩
    try (any_goals (exfalso; first | omega | exact absurd trivial (by assumption)))
    refine c_M_plainNumber ht hX1 f2 (by omega) (by omega) hM1.2.1 (fun e x v2 n1 n2 n3 n4 n5 => ?_) (fun q x v2 n1 n2 n3 => ?_)
    · have he := hgd.1 e n1
      rw [n1] at Ke
      have h81 : v2 81 n = m := by rw [n2.1 81 (by omega)]; exact hM1.2.2.2
      refine ⟨by first | decide | omega, ?_⟩
      refine c_M_put hn (by omega) (by rw [n2.2 14 (by omega) (by omega) (by omega)]; exact h141) h81 (fun v3 p1 p2 p3 p4 p5 p6 => ?_)
      refine Ke e v3 rfl (FM_tr (FM_7 (F7_tr (F7_A f1) n2)) p1 (by omega)) ⟨?_, ?_, ?_, ?_⟩
      · rw [p2, n3]; omega
      · rw [p2]; exact n4
      · rw [p2, n5, hM1.2.2.1]; omega
      · rw [p3]; omega
    · have hx := hgd.2 q x n1
      rw [n1] at Ko
      have h81 : v2 81 n = m := by rw [n2.1 81 (by omega)]; exact hM1.2.2.2
      refine ⟨by first | decide | omega, ?_⟩
      refine c_M_put hn (by omega) (by rw [n2.2 14 (by omega)]; exact h141) h81 (fun v3 p1 p2 p3 p4 p5 p6 => ?_)
      refine Ko q [x] v3 rfl (FM_tr (FM_7 (F7_A (FA_tr f1 n2))) p1 (by omega)) ⟨?_, ?_, ?_, p3⟩ ⟨?_, ?_, trivial⟩
      · rw [p2]; exact n3
      · rw [p2, n2.2 4 (by omega)]; exact hM1.2.1
      · rw [p2, n2.2 5 (by omega)]; exact hM1.2.2.1
      · rw [p4]; unfold mC; rw [if_pos (by omega)]
      · rw [p5]; unfold mV; rw [if_pos (by omega)]
  rw [if_neg hd]
  have hnd : ¬ (48 ≤ pC X p ∧ pC X p ≤ 57) := fun r => hd (isDg_iff.mpr r)
  refine ⟨fun q1 => ?_, fun q2 => ⟨by first | decide | omega, ?_⟩⟩
  try (any_goals (exfalso; first | omega | exact absurd trivial (by assumption)))
  refine c_M_letterOf ?_
  by_cases hl : isLet (pC X p) = true
  · have hl' := isLet_iff.mp hl
    have hlt := pC_lt (X := X) (p := p) (by omega)
    have hix : lIx (pC X p) ≠ -1 := by
      unfold lIx
      repeat' split
      all_goals omega
    rw [if_neg (by omega), if_pos hl] at Ko
    show _
    simp only [f2]
    refine ⟨fun q1 => ⟨fun q2 => ⟨by first | decide | omega, ?_⟩, fun q3 => ⟨by first | decide | omega, ?_⟩⟩, fun q4 => ⟨by first | decide | omega, ⟨by first | decide | omega, by first | decide | omega⟩, by first | decide | omega, ?_⟩⟩
    try (any_goals (exfalso; first | omega | exact absurd trivial (by assumption)))
    refine c_M_letterOf ?_
    have hM2 := Mo_up (q' := pS X p + 1) hM1
    refine ⟨by first | decide | omega, ?_⟩
    refine c_M_put hn (by omega) (by rw [zup_j (by omega)]; exact h141) hM2.2.2.2 (fun v3 p1 p2 p3 p4 p5 p6 => ?_)
    refine Ko _ _ v3 rfl (FM_tr (FM_7 (F7_A (FA_tr f1 FA_up))) p1 (by omega)) ⟨?_, ?_, ?_, p3⟩ ⟨?_, ?_, trivial⟩
    · rw [p2]; exact hM2.1
    · rw [p2]; exact hM2.2.1
    · rw [p2]; exact hM2.2.2.1
    · rw [p4]; unfold mC; rw [if_neg (by omega), Int.neg_neg, if_pos hl]
    · rw [p5]; unfold mV; rw [if_neg (by omega), Int.neg_neg, if_pos hl]
  have hl' : ¬ (pC X p = 104 ∨ pC X p = 114 ∨ pC X p = 99 ∨ pC X p = 100 ∨ pC X p = 115) := fun r => hl (isLet_iff.mpr r)
  have hix : lIx (pC X p) = -1 := by
    unfold lIx
    repeat' split
    all_goals omega
  by_cases c1 : pC X p = 91
  · rw [if_pos c1] at Ke Ko
    have hlt := pC_lt (X := X) (p := p) (by omega)
    refine ⟨fun q1 => ⟨fun q2 => ⟨by first | decide | omega, ?_⟩, fun q3 => ⟨by first | decide | omega, ?_⟩⟩, fun q4 => ⟨by first | decide | omega, ⟨by first | decide | omega, by first | decide | omega⟩, by first | decide | omega, ?_⟩⟩
    try (any_goals (exfalso; first | omega | exact absurd trivial (by assumption)))
    refine c_M_opens (k := (k : Int)) (by omega) f2 (by omega) hM1.2.1 hM1.2.2.1 (fun hk0 v2 n1 n2 n3 n4 => ?_) (fun hk0 v2 n1 n2 n3 n4 => ?_)
    · have hk0' : k = 0 := by omega
      subst hk0'
      try simp (disch := omega) only [zup_e, zup_ak, zup_j, Int.zero_add, Int.reduceAdd, mz78, mz79, mz80, mz81, mz82, mz83, mz84, mz85, mz86, mz87, mz88, mz89, mz90, mz91, mz92, mz93, mz94, mz95, mz96, mz97, mz98, mz99, mz100, mz101, mz102, mz103, mz104, mz105, mz106, mz107, mz108, mz109, mz110, mz111, mz112, mz113, n3]
      refine ⟨by first | decide | omega, ⟨fun q1 => ?_, fun q2 => ⟨by first | decide | omega, ?_⟩⟩⟩
      try (any_goals (exfalso; first | omega | exact absurd trivial (by assumption)))
      refine Ke (pS X p) v2 rfl (FM_7 (F7_tr (F7_A f1) n1)) ⟨?_, n3, by omega, ?_⟩
      · rw [n2]; omega
      · rw [n1.1 81 (by omega), hM1.2.2.2]; omega
    · obtain ⟨k', rfl⟩ : ∃ k' : Nat, k = k' + 1 := ⟨k - 1, by omega⟩
      have hgd := (pSum_gd (pBr_gd (X := X) k')) (pS X p + 1) (by omega) (by omega)
      have hX2 := TM_7 n1 hX1
      try simp (disch := omega) only [zup_e, zup_ak, zup_j, Int.zero_add, Int.reduceAdd, mz78, mz79, mz80, mz81, mz82, mz83, mz84, mz85, mz86, mz87, mz88, mz89, mz90, mz91, mz92, mz93, mz94, mz95, mz96, mz97, mz98, mz99, mz100, mz101, mz102, mz103, mz104, mz105, mz106, mz107, mz108, mz109, mz110, mz111, mz112, mz113, n3]
      refine ⟨by first | decide | omega, ⟨fun q1 => ?_, fun q2 => ⟨by first | decide | omega, ?_⟩⟩⟩
      try (any_goals (exfalso; first | omega | exact absurd trivial (by assumption)))
      refine hs k' rfl n (pS X p + 1) m _ _ hn hX2 (by rw [n1.2 14 (by omega) (by omega) (by omega)]; exact h141) ⟨n2, n3, by rw [n4]; omega, by rw [n1.1 81 (by omega)]; exact hM1.2.2.2⟩ (by omega) (by omega) (by omega) (fun e v3 w1 w2 w3 => ?_) (fun q t v3 w1 w2 w3 w4 => ?_)
      · have he := hgd.1 e w1
        obtain ⟨a1, a2, a3, a4⟩ := w3
        simp only [pBr, w1] at Ke
        refine ⟨by first | decide | omega, ?_⟩
        refine c_M_closesE rfl (by omega) a2 (by omega) rfl (by omega) (fun v4 y1 y2 y3 y4 => ?_)
        refine Ke e v4 rfl (FM_tr (FM_7 (F7_tr (F7_A f1) n1)) (FM_tr w2 (FM_7 (m := m) y1) (by omega)) (by omega)) ⟨?_, y3, ?_, ?_⟩
        · rw [y2]; omega
        · rw [y4]; omega
        · rw [y1.1 81 (by omega)]; omega
      · obtain ⟨g1, g2, g3, -⟩ := hgd.2 q t w1
        simp only [pBr, w1] at Ke Ko
        have hX3 := TM_M w2 hX2
        have FF : ∀ {v4 : zH}, F7 v3 v4 → FM n m v v4 := fun y => FM_tr (FM_7 (F7_tr (F7_A f1) n1)) (FM_tr w2 (FM_7 (m := m) y) (by omega)) (by omega)
        refine ⟨by first | decide | omega, ?_⟩
        refine c_M_closes ht hX3 w3.1 (by omega) g2 w3.2.1 w3.2.2.1 (by omega) (fun c v4 y1 y2 y3 y4 => ?_) (fun c v4 y1 y2 y3 y4 => ?_)
        · rw [if_pos c] at Ko
          refine Ko _ _ v4 rfl (FF y1) ⟨y2, y3, by rw [y4]; omega, by rw [y1.1 81 (by omega)]; exact w3.2.2.2⟩ (MR_fr t _ (fun j _ _ => by rw [y1.1 79 (by omega), y1.1 80 (by omega)]; exact ⟨rfl, rfl⟩) w4)
        · rw [if_neg c] at Ke
          have hbq := pS_b (X := X) q
          refine Ke _ v4 rfl (FF y1) ⟨?_, y3, by rw [y4]; omega, ?_⟩
          · rw [y2]; omega
          · rw [y1.1 81 (by omega), w3.2.2.2]; omega
  · rw [if_neg c1, if_neg hl] at Ke
    have en : pNm X 4 (pS X p) = .error (pS X p) := by
      unfold pNm
      rw [pS_i, ← hdg, if_neg hd]
    rw [en] at Ke
    refine ⟨fun q1 => ⟨fun q2 => ⟨by first | decide | omega, ?_⟩, fun q3 => ⟨by first | decide | omega, ?_⟩⟩, fun q4 => ⟨by first | decide | omega, ⟨by first | decide | omega, by first | decide | omega⟩, by first | decide | omega, ?_⟩⟩
    try (any_goals (exfalso; first | omega | exact absurd trivial (by assumption)))
    refine c_M_bad hM1.2.1 ?_
    rw [f2]
    refine Ke _ _ rfl (FM_7 (F7_tr (F7_A f1) (F7_up (by omega)))) ⟨?_, zup_s, ?_, ?_⟩
    · rw [zup_j (by omega), f2]; omega
    · rw [zup_j (by omega), hM1.2.2.1]; omega
    · rw [zup_a (by omega), hM1.2.2.2]; omega
theorem M_term_11 {X : zTp} {k D : Nat} {n m : Int} {v0 : zH} {R : zPx (List Int)} {QX : Nat → zH → Prop} (hk : k ≤ 6) (ht : tOk X) (hn : 0 ≤ n ∧ n ≤ 4) (hm : 0 ≤ m) (h14 : v0 77 14 = n) (hat : MRc l G X (D + 3) h_M_atom (pAtom X (pBr X k)) k (1 + 2 * (k : Int)))
    (Ke : ∀ (e : Int) (v' : zH), R = .error e → FM n m v0 v' → ME v' X n m e k (1 + 1 + 2 * (k : Int)) → Q 0 v') (Ko : ∀ (q : Int) (t : List Int) (v' : zH), R = .ok (q, t) → FM n m v0 v' → Mo v' n q k (m + t.length) → MR v' (340 * n + m) t → Q 0 v') :
    ∀ (f : Nat) {v : zH} {q : Int} {acc : List Int}, X.2 - q < f → TM v X → FM n m v0 v → Mo v n (pS X q) k (m + acc.length) → MR v (340 * n + m) acc → 0 ≤ q → q ≤ X.2 → m + acc.length ≤ q → R = pTl X isTm (pAtom X (pBr X k)) q acc →
    zJ l G 1 (D + 4) h_M_term k_M_term 115 Q QX 11 [(2, 77), (0, pC X q)] [] v 115
  | 0, v, q, acc, hf, hX, hF, hM, hW, h0, h1, hl, hR => by omega
  | f + 1, v, q, acc, hf, hX, hF, hM, hW, h0, h1, hl, hR => by
    have hn1 := ht.1
    have hb := pS_b (X := X) q
    have hgd0 : pGl X (pAtom X (pBr X k)) := pGd_l (b := false) (pAtom_gd (pBr_gd (X := X) k))
    have h14M := h14_M hF h14
    obtain ⟨m1, m2, m3, m4⟩ := id hM
    rw [pTl_1 (fun _ h => (sep_tm h).1) hgd0 h0 h1] at hR
    have err : ∀ (e : Int) (v' : zH), R = .error e → FM n m v0 v' → ME v' X n m e k (1 + 1 + 2 * (k : Int)) → zJ l G 1 (D + 4) h_M_term k_M_term 115 Q QX 11 [(2, 77), (0, -1)] [] v' 115 := by
      intro e v' h1 h2 h3
      have h3' := h3.1
      refine zgo ck_M_term 300 11 _ _ _ _ rfl (sg_M_term_11 ?_)
      try simp (disch := omega) only [zup_e, zup_ak, zup_j, Int.zero_add, Int.reduceAdd, mz78, mz79, mz80, mz81, mz82, mz83, mz84, mz85, mz86, mz87, mz88, mz89, mz90, mz91, mz92, mz93, mz94, mz95, mz96, mz97, mz98, mz99, mz100, mz101, mz102, mz103, mz104, mz105, mz106, mz107, mz108, mz109, mz110, mz111, mz112, mz113]
      refine ⟨fun q1 => ⟨by first | decide | omega, ⟨by first | decide | omega, by first | decide | omega⟩, by first | decide | omega, by first | decide | omega, ?_⟩, fun q2 => ⟨fun q3 => ?_, fun q4 => ⟨by first | decide | omega, ⟨by first | decide | omega, by first | decide | omega⟩, by first | decide | omega, by first | decide | omega, ?_⟩⟩⟩
      try (any_goals (exfalso; first | omega | exact absurd trivial (by assumption)))
      exact Ke e v' h1 h2 h3
    by_cases hsep : isTm (pC X q) = true
    · rw [if_pos hsep] at hR
      have hc : pC X q = 42 ∨ pC X q = 47 := by simpa [isTm] using hsep
      have hlt := pC_lt (X := X) (p := q) (by omega)
      rcases hc with hc | hc
      · rw [hc]
        refine zgo ck_M_term 300 11 _ _ _ _ rfl (sg_M_term_11 ?_)
        try simp (disch := omega) only [zup_e, zup_ak, zup_j, Int.zero_add, Int.reduceAdd, mz78, mz79, mz80, mz81, mz82, mz83, mz84, mz85, mz86, mz87, mz88, mz89, mz90, mz91, mz92, mz93, mz94, mz95, mz96, mz97, mz98, mz99, mz100, mz101, mz102, mz103, mz104, mz105, mz106, mz107, mz108, mz109, mz110, mz111, mz112, mz113, m1]
        refine ⟨fun q1 => ⟨by first | decide | omega, ⟨by first | decide | omega, by first | decide | omega⟩, by first | decide | omega, by first | decide | omega, ?_⟩, fun q2 => ⟨fun q3 => ?_, fun q4 => ⟨by first | decide | omega, ⟨by first | decide | omega, by first | decide | omega⟩, by first | decide | omega, by first | decide | omega, ?_⟩⟩⟩
        try (any_goals (exfalso; first | omega | exact absurd trivial (by assumption)))
        have hx : FA v (zupd v 77 3 (pS X q + 1)) := FA_up
        refine hat n (pS X q + 1) (m + acc.length) _ _ hn (TM_A hx hX) (by rw [zup_j (by omega)]; exact h14M) (Mo_up hM) (by omega) (by omega) (by omega) (fun e v1 n1 n2 n3 => ?_) (fun q' t v1 n1 n2 n3 n4 => ?_)
        · have he := (hgd0 (pS X q + 1) (by omega) (by omega)).1 e n1
          obtain ⟨a1, a2, a3, a4⟩ := n3
          rw [n1] at hR
          refine ⟨fun q1 => ⟨by first | decide | omega, ?_⟩, fun q2 => ⟨by first | decide | omega, ?_⟩⟩
          try (any_goals (exfalso; first | omega | exact absurd trivial (by assumption)))
          refine c_M_put hn (by omega) (h14_M n2 (by rw [zup_j (by omega)]; exact h14M)) rfl (fun v2 p1 p2 p3 p4 p5 p6 => ?_)
          have w2 : v2 77 4 = e := by rw [p2]; exact a2
          show _
          simp only [w2]
          refine ⟨by first | decide | omega, ⟨fun q1 => ?_, fun q2 => ⟨by first | decide | omega, ?_⟩⟩⟩
          try (any_goals (exfalso; first | omega | exact absurd trivial (by assumption)))
          refine err e v2 hR (FM_tr hF (FM_tr (FM_7 (m := m + acc.length) (F7_A hx)) (FM_tr n2 p1 (by omega)) (by omega)) (by omega)) ⟨?_, w2, ?_, ?_⟩
          · rw [p2]; omega
          · rw [p2]; omega
          · rw [p3]; omega
        · obtain ⟨g1, g2, g3⟩ := (hgd0 (pS X q + 1) (by omega) (by omega)).2 q' t n1
          rw [n1] at hR
          simp only [hc] at hR
          refine ⟨fun q1 => ⟨by first | decide | omega, ?_⟩, fun q2 => ⟨by first | decide | omega, ?_⟩⟩
          try (any_goals (exfalso; first | omega | exact absurd trivial (by assumption)))
          refine c_M_put hn (by omega) (h14_M n2 (by rw [zup_j (by omega)]; exact h14M)) n3.2.2.2 (fun v2 p1 p2 p3 p4 p5 p6 => ?_)
          have w2 : v2 77 4 = -1 := by rw [p2]; exact n3.2.1
          have hF2 : FM n m v0 v2 := FM_tr hF (FM_tr (FM_7 (m := m + acc.length) (F7_A hx)) (FM_tr n2 p1 (by omega)) (by omega)) (by omega)
          have e2 : m + (acc.length : Int) + t.length = m + ((acc ++ t).length : Int) := by simp; omega
          rw [e2] at p3 p4 p5 p6
          have hMR : MR v2 (340 * n + m) (acc ++ t ++ [-42]) := MR_put (MR_join (MR_fr acc _ (fun j _ _ => by rw [zup_a (by omega), zup_a (by omega)]; exact ⟨rfl, rfl⟩) hW) n2 n4) (by rw [p4]; rfl) (by rw [p5]; rfl) p6
          have hX2 := TM_M (FM_tr n2 p1 (by omega)) (TM_A hx hX)
          show _
          simp only [w2]
          refine ⟨by first | decide | omega, ⟨fun q1 => ?_, fun q2 => ⟨by first | decide | omega, ?_⟩⟩⟩
          try (any_goals (exfalso; first | omega | exact absurd trivial (by assumption)))
          refine c_M_look ht hX2 (by rw [p2]; exact n3.1) (by omega) g2 (fun v3 y1 y2 => ?_)
          refine M_term_11 hk ht hn hm h14 hat Ke Ko f (acc := acc ++ t ++ [-42]) (by omega) (TM_A y1 hX2) (FM_tr hF2 (FM_7 (m := m) (F7_A y1)) (by omega)) ⟨y2, ?_, ?_, ?_⟩ (MR_fr _ _ (fun j _ _ => by rw [y1.1 79 (by omega), y1.1 80 (by omega)]; exact ⟨rfl, rfl⟩) hMR) (by omega) g2 (by simp; omega) hR
          · rw [y1.2 4 (by omega)]; exact w2
          · rw [y1.2 5 (by omega), p2]; exact n3.2.2.1
          · rw [y1.1 81 (by omega), p3]
            simp
            omega
      · rw [hc]
        refine zgo ck_M_term 300 11 _ _ _ _ rfl (sg_M_term_11 ?_)
        try simp (disch := omega) only [zup_e, zup_ak, zup_j, Int.zero_add, Int.reduceAdd, mz78, mz79, mz80, mz81, mz82, mz83, mz84, mz85, mz86, mz87, mz88, mz89, mz90, mz91, mz92, mz93, mz94, mz95, mz96, mz97, mz98, mz99, mz100, mz101, mz102, mz103, mz104, mz105, mz106, mz107, mz108, mz109, mz110, mz111, mz112, mz113, m1]
        refine ⟨fun q1 => ⟨by first | decide | omega, ⟨by first | decide | omega, by first | decide | omega⟩, by first | decide | omega, by first | decide | omega, ?_⟩, fun q2 => ⟨fun q3 => ?_, fun q4 => ⟨by first | decide | omega, ⟨by first | decide | omega, by first | decide | omega⟩, by first | decide | omega, by first | decide | omega, ?_⟩⟩⟩
        try (any_goals (exfalso; first | omega | exact absurd trivial (by assumption)))
        have hx : FA v (zupd v 77 3 (pS X q + 1)) := FA_up
        refine hat n (pS X q + 1) (m + acc.length) _ _ hn (TM_A hx hX) (by rw [zup_j (by omega)]; exact h14M) (Mo_up hM) (by omega) (by omega) (by omega) (fun e v1 n1 n2 n3 => ?_) (fun q' t v1 n1 n2 n3 n4 => ?_)
        · have he := (hgd0 (pS X q + 1) (by omega) (by omega)).1 e n1
          obtain ⟨a1, a2, a3, a4⟩ := n3
          rw [n1] at hR
          refine ⟨fun q1 => ⟨by first | decide | omega, ?_⟩, fun q2 => ⟨by first | decide | omega, ?_⟩⟩
          try (any_goals (exfalso; first | omega | exact absurd trivial (by assumption)))
          refine c_M_put hn (by omega) (h14_M n2 (by rw [zup_j (by omega)]; exact h14M)) rfl (fun v2 p1 p2 p3 p4 p5 p6 => ?_)
          have w2 : v2 77 4 = e := by rw [p2]; exact a2
          show _
          simp only [w2]
          refine ⟨by first | decide | omega, ⟨fun q1 => ?_, fun q2 => ⟨by first | decide | omega, ?_⟩⟩⟩
          try (any_goals (exfalso; first | omega | exact absurd trivial (by assumption)))
          refine err e v2 hR (FM_tr hF (FM_tr (FM_7 (m := m + acc.length) (F7_A hx)) (FM_tr n2 p1 (by omega)) (by omega)) (by omega)) ⟨?_, w2, ?_, ?_⟩
          · rw [p2]; omega
          · rw [p2]; omega
          · rw [p3]; omega
        · obtain ⟨g1, g2, g3⟩ := (hgd0 (pS X q + 1) (by omega) (by omega)).2 q' t n1
          rw [n1] at hR
          simp only [hc] at hR
          refine ⟨fun q1 => ⟨by first | decide | omega, ?_⟩, fun q2 => ⟨by first | decide | omega, ?_⟩⟩
          try (any_goals (exfalso; first | omega | exact absurd trivial (by assumption)))
          refine c_M_put hn (by omega) (h14_M n2 (by rw [zup_j (by omega)]; exact h14M)) n3.2.2.2 (fun v2 p1 p2 p3 p4 p5 p6 => ?_)
          have w2 : v2 77 4 = -1 := by rw [p2]; exact n3.2.1
          have hF2 : FM n m v0 v2 := FM_tr hF (FM_tr (FM_7 (m := m + acc.length) (F7_A hx)) (FM_tr n2 p1 (by omega)) (by omega)) (by omega)
          have e2 : m + (acc.length : Int) + t.length = m + ((acc ++ t).length : Int) := by simp; omega
          rw [e2] at p3 p4 p5 p6
          have hMR : MR v2 (340 * n + m) (acc ++ t ++ [-47]) := MR_put (MR_join (MR_fr acc _ (fun j _ _ => by rw [zup_a (by omega), zup_a (by omega)]; exact ⟨rfl, rfl⟩) hW) n2 n4) (by rw [p4]; rfl) (by rw [p5]; rfl) p6
          have hX2 := TM_M (FM_tr n2 p1 (by omega)) (TM_A hx hX)
          show _
          simp only [w2]
          refine ⟨by first | decide | omega, ⟨fun q1 => ?_, fun q2 => ⟨by first | decide | omega, ?_⟩⟩⟩
          try (any_goals (exfalso; first | omega | exact absurd trivial (by assumption)))
          refine c_M_look ht hX2 (by rw [p2]; exact n3.1) (by omega) g2 (fun v3 y1 y2 => ?_)
          refine M_term_11 hk ht hn hm h14 hat Ke Ko f (acc := acc ++ t ++ [-47]) (by omega) (TM_A y1 hX2) (FM_tr hF2 (FM_7 (m := m) (F7_A y1)) (by omega)) ⟨y2, ?_, ?_, ?_⟩ (MR_fr _ _ (fun j _ _ => by rw [y1.1 79 (by omega), y1.1 80 (by omega)]; exact ⟨rfl, rfl⟩) hMR) (by omega) g2 (by simp; omega) hR
          · rw [y1.2 4 (by omega)]; exact w2
          · rw [y1.2 5 (by omega), p2]; exact n3.2.2.1
          · rw [y1.1 81 (by omega), p3]
            simp
            omega
    · rw [if_neg hsep] at hR
      have hc : ¬ (pC X q = 42 ∨ pC X q = 47) := fun r => hsep (by simpa [isTm] using r)
      refine zgo ck_M_term 300 11 _ _ _ _ rfl (sg_M_term_11 ?_)
      try simp (disch := omega) only [zup_e, zup_ak, zup_j, Int.zero_add, Int.reduceAdd, mz78, mz79, mz80, mz81, mz82, mz83, mz84, mz85, mz86, mz87, mz88, mz89, mz90, mz91, mz92, mz93, mz94, mz95, mz96, mz97, mz98, mz99, mz100, mz101, mz102, mz103, mz104, mz105, mz106, mz107, mz108, mz109, mz110, mz111, mz112, mz113, m1]
      refine ⟨fun q1 => ⟨by first | decide | omega, ⟨by first | decide | omega, by first | decide | omega⟩, by first | decide | omega, by first | decide | omega, ?_⟩, fun q2 => ⟨fun q3 => ?_, fun q4 => ⟨by first | decide | omega, ⟨by first | decide | omega, by first | decide | omega⟩, by first | decide | omega, by first | decide | omega, ?_⟩⟩⟩
      try (any_goals (exfalso; first | omega | exact absurd trivial (by assumption)))
      exact Ko _ _ v hR hF hM hW
theorem c_M_term {X : zTp} {k D : Nat} (hk : k ≤ 6) (ht : tOk X) (hat : MRc l G X (D + 3) h_M_atom (pAtom X (pBr X k)) k (1 + 2 * (k : Int))) : MRc l G X (D + 4) h_M_term (pTerm X (pBr X k)) k (1 + 1 + 2 * (k : Int)) := by
  intro n p m v Q hn hX h14 hM h0 h1 hm Ke Ko
  have hn1 := ht.1
  have hgd0 : pGl X (pAtom X (pBr X k)) := pGd_l (b := false) (pAtom_gd (pBr_gd (X := X) k))
  refine zC_at ok_M_term ck_M_term rfl rfl (sg_M_term_0 ?_)
  try simp (disch := omega) only [zup_e, zup_ak, zup_j, Int.zero_add, Int.reduceAdd, mz78, mz79, mz80, mz81, mz82, mz83, mz84, mz85, mz86, mz87, mz88, mz89, mz90, mz91, mz92, mz93, mz94, mz95, mz96, mz97, mz98, mz99, mz100, mz101, mz102, mz103, mz104, mz105, mz106, mz107, mz108, mz109, mz110, mz111, mz112, mz113]
  refine ⟨by first | decide | omega, ?_⟩
  try (any_goals (exfalso; first | omega | exact absurd trivial (by assumption)))
  refine hat n p m _ _ hn hX h14 hM h0 h1 hm (fun e v1 n1 n2 n3 => ?_) (fun q t v1 n1 n2 n3 n4 => ?_)
  · have he := (hgd0 p h0 h1).1 e n1
    obtain ⟨a1, a2, a3, a4⟩ := n3
    have hR : pTerm X (pBr X k) p = .error e := by
      show ((match pAtom X (pBr X k) p with
        | .error e => .error e
        | .ok (q, t) => pTl X isTm (pAtom X (pBr X k)) q t) : zPx (List Int)) = _
      rw [n1]
    show _
    simp only [a2]
    refine ⟨by first | decide | omega, ⟨fun q1 => ?_, fun q2 => ⟨by first | decide | omega, ?_⟩⟩⟩
    try (any_goals (exfalso; first | omega | exact absurd trivial (by assumption)))
    refine zgo ck_M_term 300 11 _ _ _ _ rfl (sg_M_term_11 ?_)
    try simp (disch := omega) only [zup_e, zup_ak, zup_j, Int.zero_add, Int.reduceAdd, mz78, mz79, mz80, mz81, mz82, mz83, mz84, mz85, mz86, mz87, mz88, mz89, mz90, mz91, mz92, mz93, mz94, mz95, mz96, mz97, mz98, mz99, mz100, mz101, mz102, mz103, mz104, mz105, mz106, mz107, mz108, mz109, mz110, mz111, mz112, mz113]
    refine ⟨fun q1 => ⟨by first | decide | omega, ⟨by first | decide | omega, by first | decide | omega⟩, by first | decide | omega, by first | decide | omega, ?_⟩, fun q2 => ⟨fun q3 => ?_, fun q4 => ⟨by first | decide | omega, ⟨by first | decide | omega, by first | decide | omega⟩, by first | decide | omega, by first | decide | omega, ?_⟩⟩⟩
    try (any_goals (exfalso; first | omega | exact absurd trivial (by assumption)))
    exact Ke e v1 hR n2 ⟨a1, a2, a3, by omega⟩
  · obtain ⟨g1, g2, g3⟩ := (hgd0 p h0 h1).2 q t n1
    have hb := pS_b (X := X) q
    have hR : pTerm X (pBr X k) p = pTl X isTm (pAtom X (pBr X k)) q t := by
      show ((match pAtom X (pBr X k) p with
        | .error e => .error e
        | .ok (q, t) => pTl X isTm (pAtom X (pBr X k)) q t) : zPx (List Int)) = _
      rw [n1]
    have hX1 := TM_M n2 hX
    show _
    simp only [n3.2.1]
    refine ⟨by first | decide | omega, ⟨fun q1 => ?_, fun q2 => ⟨by first | decide | omega, ?_⟩⟩⟩
    try (any_goals (exfalso; first | omega | exact absurd trivial (by assumption)))
    refine c_M_look ht hX1 n3.1 (by omega) g2 (fun v2 y1 y2 => ?_)
    exact M_term_11 hk ht hn hm.1 h14 hat Ke Ko ((X.2 - q).toNat + 1) (by omega) (TM_A y1 hX1) (FM_tr n2 (FM_7 (m := m) (F7_A y1)) (by omega)) (Mo_A n3 y1 y2) (MR_fr _ _ (fun j _ _ => by rw [y1.1 79 (by omega), y1.1 80 (by omega)]; exact ⟨rfl, rfl⟩) n4) (by omega) g2 (by omega) hR
theorem M_sum_11 {X : zTp} {k D : Nat} {n m : Int} {v0 : zH} {R : zPx (List Int)} {QX : Nat → zH → Prop} (hk : k ≤ 6) (ht : tOk X) (hn : 0 ≤ n ∧ n ≤ 4) (hm : 0 ≤ m) (h14 : v0 77 14 = n) (hat : MRc l G X (D + 3) h_M_term (pTerm X (pBr X k)) k (2 + 2 * (k : Int)))
    (Ke : ∀ (e : Int) (v' : zH), R = .error e → FM n m v0 v' → ME v' X n m e k (2 + 1 + 2 * (k : Int)) → Q 0 v') (Ko : ∀ (q : Int) (t : List Int) (v' : zH), R = .ok (q, t) → FM n m v0 v' → Mo v' n q k (m + t.length) → MR v' (340 * n + m) t → Q 0 v') :
    ∀ (f : Nat) {v : zH} {q : Int} {acc : List Int}, X.2 - q < f → TM v X → FM n m v0 v → Mo v n (pS X q) k (m + acc.length) → MR v (340 * n + m) acc → 0 ≤ q → q ≤ X.2 → m + acc.length ≤ q → R = pTl X isPm (pTerm X (pBr X k)) q acc →
    zJ l G 1 (D + 4) h_M_sum k_M_sum 115 Q QX 11 [(2, 77), (0, pC X q)] [] v 115
  | 0, v, q, acc, hf, hX, hF, hM, hW, h0, h1, hl, hR => by omega
  | f + 1, v, q, acc, hf, hX, hF, hM, hW, h0, h1, hl, hR => by
    have hn1 := ht.1
    have hb := pS_b (X := X) q
    have hgd0 : pGl X (pTerm X (pBr X k)) := pGd_l (b := false) (pSep_gd (fun _ h => sep_tm h) (pAtom_gd (pBr_gd (X := X) k)))
    have h14M := h14_M hF h14
    obtain ⟨m1, m2, m3, m4⟩ := id hM
    rw [pTl_1 (fun _ h => (sep_pm h).1) hgd0 h0 h1] at hR
    have err : ∀ (e : Int) (v' : zH), R = .error e → FM n m v0 v' → ME v' X n m e k (2 + 1 + 2 * (k : Int)) → zJ l G 1 (D + 4) h_M_sum k_M_sum 115 Q QX 11 [(2, 77), (0, -1)] [] v' 115 := by
      intro e v' h1 h2 h3
      have h3' := h3.1
      refine zgo ck_M_sum 300 11 _ _ _ _ rfl (sg_M_sum_11 ?_)
      try simp (disch := omega) only [zup_e, zup_ak, zup_j, Int.zero_add, Int.reduceAdd, mz78, mz79, mz80, mz81, mz82, mz83, mz84, mz85, mz86, mz87, mz88, mz89, mz90, mz91, mz92, mz93, mz94, mz95, mz96, mz97, mz98, mz99, mz100, mz101, mz102, mz103, mz104, mz105, mz106, mz107, mz108, mz109, mz110, mz111, mz112, mz113]
      refine ⟨fun q1 => ⟨by first | decide | omega, ⟨by first | decide | omega, by first | decide | omega⟩, by first | decide | omega, by first | decide | omega, ?_⟩, fun q2 => ⟨fun q3 => ?_, fun q4 => ⟨by first | decide | omega, ⟨by first | decide | omega, by first | decide | omega⟩, by first | decide | omega, by first | decide | omega, ?_⟩⟩⟩
      try (any_goals (exfalso; first | omega | exact absurd trivial (by assumption)))
      exact Ke e v' h1 h2 h3
    by_cases hsep : isPm (pC X q) = true
    · rw [if_pos hsep] at hR
      have hc : pC X q = 43 ∨ pC X q = 45 := by simpa [isPm] using hsep
      have hlt := pC_lt (X := X) (p := q) (by omega)
      rcases hc with hc | hc
      · rw [hc]
        refine zgo ck_M_sum 300 11 _ _ _ _ rfl (sg_M_sum_11 ?_)
        try simp (disch := omega) only [zup_e, zup_ak, zup_j, Int.zero_add, Int.reduceAdd, mz78, mz79, mz80, mz81, mz82, mz83, mz84, mz85, mz86, mz87, mz88, mz89, mz90, mz91, mz92, mz93, mz94, mz95, mz96, mz97, mz98, mz99, mz100, mz101, mz102, mz103, mz104, mz105, mz106, mz107, mz108, mz109, mz110, mz111, mz112, mz113, m1]
        refine ⟨fun q1 => ⟨by first | decide | omega, ⟨by first | decide | omega, by first | decide | omega⟩, by first | decide | omega, by first | decide | omega, ?_⟩, fun q2 => ⟨fun q3 => ?_, fun q4 => ⟨by first | decide | omega, ⟨by first | decide | omega, by first | decide | omega⟩, by first | decide | omega, by first | decide | omega, ?_⟩⟩⟩
        try (any_goals (exfalso; first | omega | exact absurd trivial (by assumption)))
        have hx : FA v (zupd v 77 3 (pS X q + 1)) := FA_up
        refine hat n (pS X q + 1) (m + acc.length) _ _ hn (TM_A hx hX) (by rw [zup_j (by omega)]; exact h14M) (Mo_up hM) (by omega) (by omega) (by omega) (fun e v1 n1 n2 n3 => ?_) (fun q' t v1 n1 n2 n3 n4 => ?_)
        · have he := (hgd0 (pS X q + 1) (by omega) (by omega)).1 e n1
          obtain ⟨a1, a2, a3, a4⟩ := n3
          rw [n1] at hR
          refine ⟨fun q1 => ⟨by first | decide | omega, ?_⟩, fun q2 => ⟨by first | decide | omega, ?_⟩⟩
          try (any_goals (exfalso; first | omega | exact absurd trivial (by assumption)))
          refine c_M_put hn (by omega) (h14_M n2 (by rw [zup_j (by omega)]; exact h14M)) rfl (fun v2 p1 p2 p3 p4 p5 p6 => ?_)
          have w2 : v2 77 4 = e := by rw [p2]; exact a2
          show _
          simp only [w2]
          refine ⟨by first | decide | omega, ⟨fun q1 => ?_, fun q2 => ⟨by first | decide | omega, ?_⟩⟩⟩
          try (any_goals (exfalso; first | omega | exact absurd trivial (by assumption)))
          refine err e v2 hR (FM_tr hF (FM_tr (FM_7 (m := m + acc.length) (F7_A hx)) (FM_tr n2 p1 (by omega)) (by omega)) (by omega)) ⟨?_, w2, ?_, ?_⟩
          · rw [p2]; omega
          · rw [p2]; omega
          · rw [p3]; omega
        · obtain ⟨g1, g2, g3⟩ := (hgd0 (pS X q + 1) (by omega) (by omega)).2 q' t n1
          rw [n1] at hR
          simp only [hc] at hR
          refine ⟨fun q1 => ⟨by first | decide | omega, ?_⟩, fun q2 => ⟨by first | decide | omega, ?_⟩⟩
          try (any_goals (exfalso; first | omega | exact absurd trivial (by assumption)))
          refine c_M_put hn (by omega) (h14_M n2 (by rw [zup_j (by omega)]; exact h14M)) n3.2.2.2 (fun v2 p1 p2 p3 p4 p5 p6 => ?_)
          have w2 : v2 77 4 = -1 := by rw [p2]; exact n3.2.1
          have hF2 : FM n m v0 v2 := FM_tr hF (FM_tr (FM_7 (m := m + acc.length) (F7_A hx)) (FM_tr n2 p1 (by omega)) (by omega)) (by omega)
          have e2 : m + (acc.length : Int) + t.length = m + ((acc ++ t).length : Int) := by simp; omega
          rw [e2] at p3 p4 p5 p6
          have hMR : MR v2 (340 * n + m) (acc ++ t ++ [-43]) := MR_put (MR_join (MR_fr acc _ (fun j _ _ => by rw [zup_a (by omega), zup_a (by omega)]; exact ⟨rfl, rfl⟩) hW) n2 n4) (by rw [p4]; rfl) (by rw [p5]; rfl) p6
          have hX2 := TM_M (FM_tr n2 p1 (by omega)) (TM_A hx hX)
          show _
          simp only [w2]
          refine ⟨by first | decide | omega, ⟨fun q1 => ?_, fun q2 => ⟨by first | decide | omega, ?_⟩⟩⟩
          try (any_goals (exfalso; first | omega | exact absurd trivial (by assumption)))
          refine c_M_look ht hX2 (by rw [p2]; exact n3.1) (by omega) g2 (fun v3 y1 y2 => ?_)
          refine M_sum_11 hk ht hn hm h14 hat Ke Ko f (acc := acc ++ t ++ [-43]) (by omega) (TM_A y1 hX2) (FM_tr hF2 (FM_7 (m := m) (F7_A y1)) (by omega)) ⟨y2, ?_, ?_, ?_⟩ (MR_fr _ _ (fun j _ _ => by rw [y1.1 79 (by omega), y1.1 80 (by omega)]; exact ⟨rfl, rfl⟩) hMR) (by omega) g2 (by simp; omega) hR
          · rw [y1.2 4 (by omega)]; exact w2
          · rw [y1.2 5 (by omega), p2]; exact n3.2.2.1
          · rw [y1.1 81 (by omega), p3]
            simp
            omega
      · rw [hc]
        refine zgo ck_M_sum 300 11 _ _ _ _ rfl (sg_M_sum_11 ?_)
        try simp (disch := omega) only [zup_e, zup_ak, zup_j, Int.zero_add, Int.reduceAdd, mz78, mz79, mz80, mz81, mz82, mz83, mz84, mz85, mz86, mz87, mz88, mz89, mz90, mz91, mz92, mz93, mz94, mz95, mz96, mz97, mz98, mz99, mz100, mz101, mz102, mz103, mz104, mz105, mz106, mz107, mz108, mz109, mz110, mz111, mz112, mz113, m1]
        refine ⟨fun q1 => ⟨by first | decide | omega, ⟨by first | decide | omega, by first | decide | omega⟩, by first | decide | omega, by first | decide | omega, ?_⟩, fun q2 => ⟨fun q3 => ?_, fun q4 => ⟨by first | decide | omega, ⟨by first | decide | omega, by first | decide | omega⟩, by first | decide | omega, by first | decide | omega, ?_⟩⟩⟩
        try (any_goals (exfalso; first | omega | exact absurd trivial (by assumption)))
        have hx : FA v (zupd v 77 3 (pS X q + 1)) := FA_up
        refine hat n (pS X q + 1) (m + acc.length) _ _ hn (TM_A hx hX) (by rw [zup_j (by omega)]; exact h14M) (Mo_up hM) (by omega) (by omega) (by omega) (fun e v1 n1 n2 n3 => ?_) (fun q' t v1 n1 n2 n3 n4 => ?_)
        · have he := (hgd0 (pS X q + 1) (by omega) (by omega)).1 e n1
          obtain ⟨a1, a2, a3, a4⟩ := n3
          rw [n1] at hR
          refine ⟨fun q1 => ⟨by first | decide | omega, ?_⟩, fun q2 => ⟨by first | decide | omega, ?_⟩⟩
          try (any_goals (exfalso; first | omega | exact absurd trivial (by assumption)))
          refine c_M_put hn (by omega) (h14_M n2 (by rw [zup_j (by omega)]; exact h14M)) rfl (fun v2 p1 p2 p3 p4 p5 p6 => ?_)
          have w2 : v2 77 4 = e := by rw [p2]; exact a2
          show _
          simp only [w2]
          refine ⟨by first | decide | omega, ⟨fun q1 => ?_, fun q2 => ⟨by first | decide | omega, ?_⟩⟩⟩
          try (any_goals (exfalso; first | omega | exact absurd trivial (by assumption)))
          refine err e v2 hR (FM_tr hF (FM_tr (FM_7 (m := m + acc.length) (F7_A hx)) (FM_tr n2 p1 (by omega)) (by omega)) (by omega)) ⟨?_, w2, ?_, ?_⟩
          · rw [p2]; omega
          · rw [p2]; omega
          · rw [p3]; omega
        · obtain ⟨g1, g2, g3⟩ := (hgd0 (pS X q + 1) (by omega) (by omega)).2 q' t n1
          rw [n1] at hR
          simp only [hc] at hR
          refine ⟨fun q1 => ⟨by first | decide | omega, ?_⟩, fun q2 => ⟨by first | decide | omega, ?_⟩⟩
          try (any_goals (exfalso; first | omega | exact absurd trivial (by assumption)))
          refine c_M_put hn (by omega) (h14_M n2 (by rw [zup_j (by omega)]; exact h14M)) n3.2.2.2 (fun v2 p1 p2 p3 p4 p5 p6 => ?_)
          have w2 : v2 77 4 = -1 := by rw [p2]; exact n3.2.1
          have hF2 : FM n m v0 v2 := FM_tr hF (FM_tr (FM_7 (m := m + acc.length) (F7_A hx)) (FM_tr n2 p1 (by omega)) (by omega)) (by omega)
          have e2 : m + (acc.length : Int) + t.length = m + ((acc ++ t).length : Int) := by simp; omega
          rw [e2] at p3 p4 p5 p6
          have hMR : MR v2 (340 * n + m) (acc ++ t ++ [-45]) := MR_put (MR_join (MR_fr acc _ (fun j _ _ => by rw [zup_a (by omega), zup_a (by omega)]; exact ⟨rfl, rfl⟩) hW) n2 n4) (by rw [p4]; rfl) (by rw [p5]; rfl) p6
          have hX2 := TM_M (FM_tr n2 p1 (by omega)) (TM_A hx hX)
          show _
          simp only [w2]
          refine ⟨by first | decide | omega, ⟨fun q1 => ?_, fun q2 => ⟨by first | decide | omega, ?_⟩⟩⟩
          try (any_goals (exfalso; first | omega | exact absurd trivial (by assumption)))
          refine c_M_look ht hX2 (by rw [p2]; exact n3.1) (by omega) g2 (fun v3 y1 y2 => ?_)
          refine M_sum_11 hk ht hn hm h14 hat Ke Ko f (acc := acc ++ t ++ [-45]) (by omega) (TM_A y1 hX2) (FM_tr hF2 (FM_7 (m := m) (F7_A y1)) (by omega)) ⟨y2, ?_, ?_, ?_⟩ (MR_fr _ _ (fun j _ _ => by rw [y1.1 79 (by omega), y1.1 80 (by omega)]; exact ⟨rfl, rfl⟩) hMR) (by omega) g2 (by simp; omega) hR
          · rw [y1.2 4 (by omega)]; exact w2
          · rw [y1.2 5 (by omega), p2]; exact n3.2.2.1
          · rw [y1.1 81 (by omega), p3]
            simp
            omega
    · rw [if_neg hsep] at hR
      have hc : ¬ (pC X q = 43 ∨ pC X q = 45) := fun r => hsep (by simpa [isPm] using r)
      refine zgo ck_M_sum 300 11 _ _ _ _ rfl (sg_M_sum_11 ?_)
      try simp (disch := omega) only [zup_e, zup_ak, zup_j, Int.zero_add, Int.reduceAdd, mz78, mz79, mz80, mz81, mz82, mz83, mz84, mz85, mz86, mz87, mz88, mz89, mz90, mz91, mz92, mz93, mz94, mz95, mz96, mz97, mz98, mz99, mz100, mz101, mz102, mz103, mz104, mz105, mz106, mz107, mz108, mz109, mz110, mz111, mz112, mz113, m1]
      refine ⟨fun q1 => ⟨by first | decide | omega, ⟨by first | decide | omega, by first | decide | omega⟩, by first | decide | omega, by first | decide | omega, ?_⟩, fun q2 => ⟨fun q3 => ?_, fun q4 => ⟨by first | decide | omega, ⟨by first | decide | omega, by first | decide | omega⟩, by first | decide | omega, by first | decide | omega, ?_⟩⟩⟩
      try (any_goals (exfalso; first | omega | exact absurd trivial (by assumption)))
      exact Ko _ _ v hR hF hM hW
theorem c_M_sum {X : zTp} {k D : Nat} (hk : k ≤ 6) (ht : tOk X) (hat : MRc l G X (D + 3) h_M_term (pTerm X (pBr X k)) k (2 + 2 * (k : Int))) : MRc l G X (D + 4) h_M_sum (pSum X (pBr X k)) k (2 + 1 + 2 * (k : Int)) := by
  intro n p m v Q hn hX h14 hM h0 h1 hm Ke Ko
  have hn1 := ht.1
  have hgd0 : pGl X (pTerm X (pBr X k)) := pGd_l (b := false) (pSep_gd (fun _ h => sep_tm h) (pAtom_gd (pBr_gd (X := X) k)))
  refine zC_at ok_M_sum ck_M_sum rfl rfl (sg_M_sum_0 ?_)
  try simp (disch := omega) only [zup_e, zup_ak, zup_j, Int.zero_add, Int.reduceAdd, mz78, mz79, mz80, mz81, mz82, mz83, mz84, mz85, mz86, mz87, mz88, mz89, mz90, mz91, mz92, mz93, mz94, mz95, mz96, mz97, mz98, mz99, mz100, mz101, mz102, mz103, mz104, mz105, mz106, mz107, mz108, mz109, mz110, mz111, mz112, mz113]
  refine ⟨by first | decide | omega, ?_⟩
  try (any_goals (exfalso; first | omega | exact absurd trivial (by assumption)))
  refine hat n p m _ _ hn hX h14 hM h0 h1 hm (fun e v1 n1 n2 n3 => ?_) (fun q t v1 n1 n2 n3 n4 => ?_)
  · have he := (hgd0 p h0 h1).1 e n1
    obtain ⟨a1, a2, a3, a4⟩ := n3
    have hR : pSum X (pBr X k) p = .error e := by
      show ((match pTerm X (pBr X k) p with
        | .error e => .error e
        | .ok (q, t) => pTl X isPm (pTerm X (pBr X k)) q t) : zPx (List Int)) = _
      rw [n1]
    show _
    simp only [a2]
    refine ⟨by first | decide | omega, ⟨fun q1 => ?_, fun q2 => ⟨by first | decide | omega, ?_⟩⟩⟩
    try (any_goals (exfalso; first | omega | exact absurd trivial (by assumption)))
    refine zgo ck_M_sum 300 11 _ _ _ _ rfl (sg_M_sum_11 ?_)
    try simp (disch := omega) only [zup_e, zup_ak, zup_j, Int.zero_add, Int.reduceAdd, mz78, mz79, mz80, mz81, mz82, mz83, mz84, mz85, mz86, mz87, mz88, mz89, mz90, mz91, mz92, mz93, mz94, mz95, mz96, mz97, mz98, mz99, mz100, mz101, mz102, mz103, mz104, mz105, mz106, mz107, mz108, mz109, mz110, mz111, mz112, mz113]
    refine ⟨fun q1 => ⟨by first | decide | omega, ⟨by first | decide | omega, by first | decide | omega⟩, by first | decide | omega, by first | decide | omega, ?_⟩, fun q2 => ⟨fun q3 => ?_, fun q4 => ⟨by first | decide | omega, ⟨by first | decide | omega, by first | decide | omega⟩, by first | decide | omega, by first | decide | omega, ?_⟩⟩⟩
    try (any_goals (exfalso; first | omega | exact absurd trivial (by assumption)))
    exact Ke e v1 hR n2 ⟨a1, a2, a3, by omega⟩
  · obtain ⟨g1, g2, g3⟩ := (hgd0 p h0 h1).2 q t n1
    have hb := pS_b (X := X) q
    have hR : pSum X (pBr X k) p = pTl X isPm (pTerm X (pBr X k)) q t := by
      show ((match pTerm X (pBr X k) p with
        | .error e => .error e
        | .ok (q, t) => pTl X isPm (pTerm X (pBr X k)) q t) : zPx (List Int)) = _
      rw [n1]
    have hX1 := TM_M n2 hX
    show _
    simp only [n3.2.1]
    refine ⟨by first | decide | omega, ⟨fun q1 => ?_, fun q2 => ⟨by first | decide | omega, ?_⟩⟩⟩
    try (any_goals (exfalso; first | omega | exact absurd trivial (by assumption)))
    refine c_M_look ht hX1 n3.1 (by omega) g2 (fun v2 y1 y2 => ?_)
    exact M_sum_11 hk ht hn hm.1 h14 hat Ke Ko ((X.2 - q).toNat + 1) (by omega) (TM_A y1 hX1) (FM_tr n2 (FM_7 (m := m) (F7_A y1)) (by omega)) (Mo_A n3 y1 y2) (MR_fr _ _ (fun j _ _ => by rw [y1.1 79 (by omega), y1.1 80 (by omega)]; exact ⟨rfl, rfl⟩) n4) (by omega) g2 (by omega) hR
theorem c_M_sumK {X : zTp} (ht : tOk X) : ∀ (k d : Nat), k ≤ 6 → MRc l G X (d + 3 * k + 6) h_M_sum (pSumL X k) k (3 + 2 * (k : Int))
  | 0, d, hk => by
    have a := c_M_atom (l := l) (G := G) (X := X) (k := 0) (D := d) (by omega) ht (fun k' e => by omega)
    exact c_M_sum (D := d + 2) (by omega) ht (c_M_term (D := d + 1) (by omega) ht a)
  | k + 1, d, hk => by
    have s := c_M_sumK ht k d (by omega)
    have a := c_M_atom (l := l) (G := G) (X := X) (k := k + 1) (D := d + 3 * k + 3) (by omega) ht (fun k' e => by
      have e' : k' = k := by omega
      subst e'
      exact s)
    exact c_M_sum (D := d + 3 * k + 5) (by omega) ht (c_M_term (D := d + 3 * k + 4) (by omega) ht a)
end
