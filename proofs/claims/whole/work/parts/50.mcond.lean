/-! THE REFERENCE: a law's conditions read -/
/-- the same for a tail: tokens acc stand already -/
def MTc (l : Launch) (G : zG) (X : zTp) (D : Nat) (h : zHdr) (R : Int → List Int → zPx (List Int)) (k bE : Int) : Prop :=
  ∀ (n q m : Int) (acc : List Int) (v : zH) (Q : Int → zH → Prop), (0 ≤ n ∧ n ≤ 4) → TM v X → v 77 14 = n → Mo v n q k (m + acc.length) → MR v (340 * n + m) acc → 0 ≤ q → q ≤ X.2 → 0 ≤ m → 1 ≤ acc.length → m + acc.length ≤ q →
  (∀ (e : Int) (v' : zH), R q acc = .error e → FM n m v v' → ME v' X n m e k bE → Q 0 v') → (∀ (r : Int) (t : List Int) (v' : zH), R q acc = .ok (r, t) → FM n m v v' → Mo v' n r k (m + t.length) → MR v' (340 * n + m) t → Q 0 v') → zC l G 1 D h [(2, 77)] v 115 Q
theorem MR_A {v v' : zH} {b : Int} {s : List Int} (h : F7 v v') (k : MR v b s) : MR v' b s := MR_fr s b (fun j _ _ => by rw [h.1 79 (by omega), h.1 80 (by omega)]; exact ⟨rfl, rfl⟩) k
theorem h14_7 {v v' : zH} {x : Int} (h : F7 v v') (e : v 77 14 = x) : v' 77 14 = x := by rw [h.2 14 (by omega) (by omega) (by omega)]; exact e
theorem pUnitB_S {X : zTp} {s : zPs} {q : Int} : pUnitB X s (pS X q) = pUnitB X s q := by
  unfold pUnitB pCmp
  rw [pC_i, pS_i]
theorem pTl_gl {X : zTp} {sep : Int → Bool} {item : zPs} (hs : ∀ k : Int, sep k = true → 0 ≤ k) (hi : pGl X item) {q m : Int} {acc : List Int} (h0 : 0 ≤ q) (h1 : q ≤ X.2) (hm : 0 ≤ m) (ha : 1 ≤ acc.length) (hl : m + acc.length ≤ q) :
    (∀ e, pTl X sep item q acc = .error e → q ≤ e ∧ e ≤ X.2) ∧ (∀ r t, pTl X sep item q acc = .ok (r, t) → q ≤ r ∧ r ≤ X.2 ∧ m + t.length ≤ r) := by
  have h := pStar_gl (p0 := q - acc.length) hs hi ((X.2 - q).toNat + 1) q acc (by omega) (by omega) h1 (by omega) (by omega)
  refine ⟨h.1, fun r t e => ?_⟩
  have := h.2 r t e
  omega
theorem pUc_nn {X : zTp} (ht : tOk X) {k : Nat} {p q : Int} {t : List Int} (h0 : 0 ≤ p) (h1 : p ≤ X.2) (h : pUc X k p = .ok (q, t)) : 1 ≤ t.length := by
  have hn := ht.1
  obtain ⟨g1, g2, g3, g4⟩ := (pUc_gd (X := X) k p h0 h1).2 q t h
  have := tRn_nn (g4 [] (by simp; omega))
  cases t with
  | nil => exact absurd rfl this
  | cons a b => simp
section
variable {l : Launch} {G : zG} {d : Nat} {v : zH} {Q : Int → zH → Prop}
theorem c_M_compare {X : zTp} {k D : Nat} (hk : k ≤ 6) (ht : tOk X) (hsum : MRc l G X (D + 3) h_M_sum (pSumL X k) k (3 + 2 * (k : Int))) : MRc l G X (D + 4) h_M_compare (pUnitB X (pSumL X k)) k (4 + 2 * (k : Int)) := by
  intro n p m v Q hn hX h14 hM h0 h1 hm Ke Ko
  have hn1 := ht.1
  have hb := pS_b (X := X) p
  have hM0 := hM
  unfold pUnitB pCmp at Ke Ko
  refine zC_at ok_M_compare ck_M_compare rfl rfl (sg_M_compare_0 ?_)
  try simp (disch := omega) only [zup_e, zup_ak, zup_j, Int.zero_add, Int.reduceAdd, mz78, mz79, mz80, mz81, mz82, mz83, mz84, mz85, mz86, mz87, mz88, mz89, mz90, mz91, mz92, mz93, mz94, mz95, mz96, mz97, mz98, mz99, mz100, mz101, mz102, mz103, mz104, mz105, mz106, mz107, mz108, mz109, mz110, mz111, mz112, mz113, hM0.2.1]
  refine ⟨by first | decide | omega, ⟨fun q1 => ?_, fun q2 => ⟨by first | decide | omega, ?_⟩⟩⟩
  try (any_goals (exfalso; first | omega | exact absurd trivial (by assumption)))
  refine c_M_look ht hX hM0.1 h0 h1 (fun v1 f1 f2 => ?_)
  have hM1 := Mo_A hM0 f1 f2
  have hX1 := TM_A f1 hX
  refine c_M_isSign ?_
  by_cases cc : isCmp (pC X p) = true
  rotate_left
  · rw [if_neg cc] at Ke
    rw [if_neg cc]
    refine ⟨fun q1 => ⟨by first | decide | omega, ⟨by first | decide | omega, by first | decide | omega⟩, by first | decide | omega, by first | decide | omega, ?_⟩, fun q2 => ⟨by first | decide | omega, ?_⟩⟩
    try (any_goals (exfalso; first | omega | exact absurd trivial (by assumption)))
    refine c_M_bad hM1.2.1 ?_
    rw [f2]
    refine Ke _ _ rfl (FM_7 (F7_tr (F7_A f1) (F7_up (by omega)))) ⟨?_, zup_s, ?_, ?_⟩
    · rw [zup_j (by omega), f2]; omega
    · rw [zup_j (by omega), hM1.2.2.1]; omega
    · rw [zup_a (by omega), hM1.2.2.2]; omega
  rw [if_pos cc] at Ke Ko
  rw [if_pos cc]
  have cc' := isCmp_iff.mp cc
  have hlt := pC_lt (X := X) (p := p) (by omega)
  have hgd := (pSumL_gd (X := X) (k := k)) (pS X p + 1) (by omega) (by omega)
  show _
  simp only [f2]
  refine ⟨fun q1 => ⟨by first | decide | omega, ⟨by first | decide | omega, by first | decide | omega⟩, by first | decide | omega, by first | decide | omega, ?_⟩, fun q2 => ⟨by first | decide | omega, ?_⟩⟩
  try (any_goals (exfalso; first | omega | exact absurd trivial (by assumption)))
  have hx : FA v1 (zupd v1 77 3 (pS X p + 1)) := FA_up
  have H14 : ∀ {w : zH}, FM n m (zupd v1 77 3 (pS X p + 1)) w → w 77 14 = n := fun f => h14_M f (h14_7 (F7_A (FA_tr f1 hx)) h14)
  refine hsum n (pS X p + 1) m _ _ hn (TM_A hx hX1) (h14_7 (F7_A (FA_tr f1 hx)) h14) (Mo_up hM1) (by omega) (by omega) (by omega) (fun e v2 n1 n2 n3 => ?_) (fun q t v2 n1 n2 n3 n4 => ?_)
  · have he := hgd.1 e n1
    obtain ⟨a1, a2, a3, a4⟩ := n3
    simp only [n1] at Ke
    have fin : ∀ (c : Int) (P : zH → Prop), (∀ v3, Q 0 v3 → P v3) → zC l G 1 (D + 3) h_M_put [(2, 77), (0, c), (0, 0)] v2 115 (fun _ v3 => P v3) := fun c P hP => by
      refine c_M_put hn (by omega) (H14 n2) rfl (fun v3 p1 p2 p3 p4 p5 p6 => hP v3 ?_)
      refine Ke e v3 rfl (FM_tr (FM_7 (F7_A (FA_tr f1 hx))) (FM_tr n2 p1 (by omega)) (by omega)) ⟨?_, ?_, ?_, ?_⟩
      · rw [p2]; omega
      · rw [p2]; exact a2
      · rw [p2]; omega
      · rw [p3]; omega
    rcases cc' with hc | hc | hc
    · refine ⟨fun q1 => ⟨fun q2 => ⟨by first | decide | omega, ?_⟩, fun q3 => ⟨by first | decide | omega, ?_⟩⟩, fun q4 => ⟨by first | decide | omega, ?_⟩⟩
      try (any_goals (exfalso; first | omega | exact absurd trivial (by assumption)))
      exact fin 6 _ (fun _ h => h)
    · refine ⟨fun q1 => ⟨fun q2 => ⟨by first | decide | omega, ?_⟩, fun q3 => ⟨by first | decide | omega, ?_⟩⟩, fun q4 => ⟨by first | decide | omega, ?_⟩⟩
      try (any_goals (exfalso; first | omega | exact absurd trivial (by assumption)))
      exact fin 7 _ (fun _ h => h)
    · refine ⟨fun q1 => ⟨fun q2 => ⟨by first | decide | omega, ?_⟩, fun q3 => ⟨by first | decide | omega, ?_⟩⟩, fun q4 => ⟨by first | decide | omega, ?_⟩⟩
      try (any_goals (exfalso; first | omega | exact absurd trivial (by assumption)))
      exact fin 8 _ (fun _ h => h)
  · obtain ⟨g1, g2, g3, -⟩ := hgd.2 q t n1
    simp only [n1, List.nil_append] at Ko
    have fin : ∀ (c : Int) (P : zH → Prop), mC (-(pC X p)) = c → (∀ v3, Q 0 v3 → P v3) → zC l G 1 (D + 3) h_M_put [(2, 77), (0, c), (0, 0)] v2 115 (fun _ v3 => P v3) := fun c P hc hP => by
      refine c_M_put hn (by omega) (H14 n2) n3.2.2.2 (fun v3 p1 p2 p3 p4 p5 p6 => hP v3 ?_)
      refine Ko q _ v3 rfl (FM_tr (FM_7 (F7_A (FA_tr f1 hx))) (FM_tr n2 p1 (by omega)) (by omega)) ⟨?_, ?_, ?_, ?_⟩ (MR_put n4 (by rw [p4]; exact hc.symm) (by rw [p5]; rcases cc' with hc | hc | hc <;> rw [hc] <;> rfl) p6)
      · rw [p2]; exact n3.1
      · rw [p2]; exact n3.2.1
      · rw [p2]; exact n3.2.2.1
      · rw [p3]; simp; omega
    rcases cc' with hc | hc | hc
    · refine ⟨fun q1 => ⟨fun q2 => ⟨by first | decide | omega, ?_⟩, fun q3 => ⟨by first | decide | omega, ?_⟩⟩, fun q4 => ⟨by first | decide | omega, ?_⟩⟩
      try (any_goals (exfalso; first | omega | exact absurd trivial (by assumption)))
      exact fin 6 _ (by rw [hc]; rfl) (fun _ h => h)
    · refine ⟨fun q1 => ⟨fun q2 => ⟨by first | decide | omega, ?_⟩, fun q3 => ⟨by first | decide | omega, ?_⟩⟩, fun q4 => ⟨by first | decide | omega, ?_⟩⟩
      try (any_goals (exfalso; first | omega | exact absurd trivial (by assumption)))
      exact fin 7 _ (by rw [hc]; rfl) (fun _ h => h)
    · refine ⟨fun q1 => ⟨fun q2 => ⟨by first | decide | omega, ?_⟩, fun q3 => ⟨by first | decide | omega, ?_⟩⟩, fun q4 => ⟨by first | decide | omega, ?_⟩⟩
      try (any_goals (exfalso; first | omega | exact absurd trivial (by assumption)))
      exact fin 8 _ (by rw [hc]; rfl) (fun _ h => h)
theorem c_M_unit {X : zTp} {k D : Nat} (hk : k ≤ 6) (ht : tOk X) (hsum : MRc l G X (D + 3) h_M_sum (pSumL X k) k (3 + 2 * (k : Int))) (hcmp : MRc l G X (D + 3) h_M_compare (pUnitB X (pSumL X k)) k (4 + 2 * (k : Int)))
    (hu : ∀ k' : Nat, k = k' + 1 → MRc l G X (D + 3) h_M_unit (pUc X k') k' (4 + 2 * (k' : Int))) (hc : ∀ k' : Nat, k = k' + 1 → MRc l G X (D + 3) h_M_condition (pCond X (pUc X k')) k' (6 + 2 * (k' : Int))) : MRc l G X (D + 4) h_M_unit (pUc X k) k (4 + 2 * (k : Int)) := by
  intro n p m v Q hn hX h14 hM h0 h1 hm Ke Ko
  have hn1 := ht.1
  have hb := pS_b (X := X) p
  have hM0 := hM
  have eU : pUc X k = pUnit X (pSumL X k) (match k with
    | 0 => none
    | k' + 1 => some (pUc X k')) := by cases k <;> rfl
  rw [eU] at Ke Ko
  unfold pUnit at Ke Ko
  refine zC_at ok_M_unit ck_M_unit rfl rfl (sg_M_unit_0 ?_)
  try simp (disch := omega) only [zup_e, zup_ak, zup_j, Int.zero_add, Int.reduceAdd, mz78, mz79, mz80, mz81, mz82, mz83, mz84, mz85, mz86, mz87, mz88, mz89, mz90, mz91, mz92, mz93, mz94, mz95, mz96, mz97, mz98, mz99, mz100, mz101, mz102, mz103, mz104, mz105, mz106, mz107, mz108, mz109, mz110, mz111, mz112, mz113]
  refine ⟨by first | decide | omega, ?_⟩
  try (any_goals (exfalso; first | omega | exact absurd trivial (by assumption)))
  refine c_M_look ht hX hM0.1 h0 h1 (fun v1 f1 f2 => ?_)
  have hM1 := Mo_A hM0 f1 f2
  have hX1 := TM_A f1 hX
  have h141 := h14_7 (F7_A f1) h14
  by_cases c1 : pC X p = 33
  · rw [if_pos c1] at Ke Ko
    have hlt := pC_lt (X := X) (p := p) (by omega)
    refine ⟨fun q1 => ⟨fun q2 => ⟨by first | decide | omega, ?_⟩, fun q3 => ⟨by first | decide | omega, ?_⟩⟩, fun q4 => ⟨by first | decide | omega, ?_⟩⟩
    try (any_goals (exfalso; first | omega | exact absurd trivial (by assumption)))
    refine c_M_opens (k := (k : Int)) (by omega) f2 (by omega) hM1.2.1 hM1.2.2.1 (fun hk0 v2 n1 n2 n3 n4 => ?_) (fun hk0 v2 n1 n2 n3 n4 => ?_)
    · have hk0' : k = 0 := by omega
      subst hk0'
      try simp (disch := omega) only [zup_e, zup_ak, zup_j, Int.zero_add, Int.reduceAdd, mz78, mz79, mz80, mz81, mz82, mz83, mz84, mz85, mz86, mz87, mz88, mz89, mz90, mz91, mz92, mz93, mz94, mz95, mz96, mz97, mz98, mz99, mz100, mz101, mz102, mz103, mz104, mz105, mz106, mz107, mz108, mz109, mz110, mz111, mz112, mz113, n3]
      refine ⟨by first | decide | omega, ⟨fun q1 => ?_, fun q2 => ⟨by first | decide | omega, ?_⟩⟩⟩
      try (any_goals (exfalso; first | omega | exact absurd trivial (by assumption)))
      refine Ke (pS X p) v2 rfl (FM_7 (F7_tr (F7_A f1) n1)) ⟨?_, n3, by omega, ?_⟩
      · rw [n2]; omega
      · rw [n1.1 81 (by omega), hM1.2.2.2]; omega
    · cases k with
      | zero => omega
      | succ k' =>
        have hgd := (pUc_gd (X := X) k') (pS X p + 1) (by omega) (by omega)
        have hX2 := TM_7 n1 hX1
        have h142 := h14_7 n1 h141
        try simp (disch := omega) only [zup_e, zup_ak, zup_j, Int.zero_add, Int.reduceAdd, mz78, mz79, mz80, mz81, mz82, mz83, mz84, mz85, mz86, mz87, mz88, mz89, mz90, mz91, mz92, mz93, mz94, mz95, mz96, mz97, mz98, mz99, mz100, mz101, mz102, mz103, mz104, mz105, mz106, mz107, mz108, mz109, mz110, mz111, mz112, mz113, n3]
        refine ⟨by first | decide | omega, ⟨fun q1 => ?_, fun q2 => ⟨by first | decide | omega, ?_⟩⟩⟩
        try (any_goals (exfalso; first | omega | exact absurd trivial (by assumption)))
        refine hu k' rfl n (pS X p + 1) m _ _ hn hX2 h142 ⟨n2, n3, by rw [n4]; omega, by rw [n1.1 81 (by omega)]; exact hM1.2.2.2⟩ (by omega) (by omega) (by omega) (fun e v3 w1 w2 w3 => ?_) (fun q t v3 w1 w2 w3 w4 => ?_)
        · have he := hgd.1 e w1
          obtain ⟨a1, a2, a3, a4⟩ := w3
          simp only [w1] at Ke
          refine ⟨by first | decide | omega, ?_⟩
          refine c_M_put hn (by omega) (h14_M w2 h142) rfl (fun v4 p1 p2 p3 p4 p5 p6 => ?_)
          rw [p2]
          refine ⟨by first | decide | omega, ⟨by first | decide | omega, by first | decide | omega⟩, by first | decide | omega, ?_⟩
          refine Ke e _ rfl (FM_tr (FM_7 (F7_tr (F7_A f1) n1)) (FM_tr w2 (FM_tr p1 (FM_7 (m := v3 81 n) (F7_up (by omega))) (by omega)) (by omega)) (by omega)) ⟨?_, ?_, ?_, ?_⟩
          · rw [zup_j (by omega), p2]; omega
          · rw [zup_j (by omega), p2]; exact a2
          · rw [zup_s]; omega
          · rw [zup_a (by omega), p3]; omega
        · obtain ⟨g1, g2, g3, -⟩ := hgd.2 q t w1
          simp only [w1] at Ko
          refine ⟨by first | decide | omega, ?_⟩
          refine c_M_put hn (by omega) (h14_M w2 h142) w3.2.2.2 (fun v4 p1 p2 p3 p4 p5 p6 => ?_)
          rw [p2, w3.2.2.1]
          refine ⟨by first | decide | omega, ⟨by first | decide | omega, by first | decide | omega⟩, by first | decide | omega, ?_⟩
          refine Ko q _ _ rfl (FM_tr (FM_7 (F7_tr (F7_A f1) n1)) (FM_tr w2 (FM_tr p1 (FM_7 (m := m + t.length) (F7_up (by omega))) (by omega)) (by omega)) (by omega)) ⟨?_, ?_, ?_, ?_⟩ (MR_A (F7_up (by omega)) (MR_put w4 (by rw [p4]; rfl) (by rw [p5]; rfl) p6))
          · rw [zup_j (by omega), p2]; exact w3.1
          · rw [zup_j (by omega), p2]; exact w3.2.1
          · rw [zup_s]; omega
          · rw [zup_a (by omega), p3]; simp; omega
  rw [if_neg c1] at Ke Ko
  by_cases c2 : pC X p = 40
  · rw [if_pos c2] at Ke Ko
    have hlt := pC_lt (X := X) (p := p) (by omega)
    refine ⟨fun q1 => ⟨fun q2 => ⟨by first | decide | omega, ?_⟩, fun q3 => ⟨by first | decide | omega, ?_⟩⟩, fun q4 => ⟨by first | decide | omega, ?_⟩⟩
    try (any_goals (exfalso; first | omega | exact absurd trivial (by assumption)))
    refine c_M_opens (k := (k : Int)) (by omega) f2 (by omega) hM1.2.1 hM1.2.2.1 (fun hk0 v2 n1 n2 n3 n4 => ?_) (fun hk0 v2 n1 n2 n3 n4 => ?_)
    · have hk0' : k = 0 := by omega
      subst hk0'
      try simp (disch := omega) only [zup_e, zup_ak, zup_j, Int.zero_add, Int.reduceAdd, mz78, mz79, mz80, mz81, mz82, mz83, mz84, mz85, mz86, mz87, mz88, mz89, mz90, mz91, mz92, mz93, mz94, mz95, mz96, mz97, mz98, mz99, mz100, mz101, mz102, mz103, mz104, mz105, mz106, mz107, mz108, mz109, mz110, mz111, mz112, mz113, n3]
      refine ⟨by first | decide | omega, ⟨fun q1 => ?_, fun q2 => ⟨by first | decide | omega, ?_⟩⟩⟩
      try (any_goals (exfalso; first | omega | exact absurd trivial (by assumption)))
      refine Ke (pS X p) v2 rfl (FM_7 (F7_tr (F7_A f1) n1)) ⟨?_, n3, by omega, ?_⟩
      · rw [n2]; omega
      · rw [n1.1 81 (by omega), hM1.2.2.2]; omega
    · cases k with
      | zero => omega
      | succ k' =>
        have hgd := (pCond_gd (pUc_gd (X := X) k')) (pS X p + 1) (by omega) (by omega)
        have hX2 := TM_7 n1 hX1
        have h142 := h14_7 n1 h141
        try simp (disch := omega) only [zup_e, zup_ak, zup_j, Int.zero_add, Int.reduceAdd, mz78, mz79, mz80, mz81, mz82, mz83, mz84, mz85, mz86, mz87, mz88, mz89, mz90, mz91, mz92, mz93, mz94, mz95, mz96, mz97, mz98, mz99, mz100, mz101, mz102, mz103, mz104, mz105, mz106, mz107, mz108, mz109, mz110, mz111, mz112, mz113, n3]
        refine ⟨by first | decide | omega, ⟨fun q1 => ?_, fun q2 => ⟨by first | decide | omega, ?_⟩⟩⟩
        try (any_goals (exfalso; first | omega | exact absurd trivial (by assumption)))
        refine hc k' rfl n (pS X p + 1) m _ _ hn hX2 h142 ⟨n2, n3, by rw [n4]; omega, by rw [n1.1 81 (by omega)]; exact hM1.2.2.2⟩ (by omega) (by omega) (by omega) (fun e v3 w1 w2 w3 => ?_) (fun q t v3 w1 w2 w3 w4 => ?_)
        · have he := hgd.1 e w1
          obtain ⟨a1, a2, a3, a4⟩ := w3
          simp only [w1] at Ke
          refine ⟨by first | decide | omega, ?_⟩
          refine c_M_closesE rfl (by omega) a2 (by omega) rfl (by omega) (fun v4 y1 y2 y3 y4 => ?_)
          refine Ke e v4 rfl (FM_tr (FM_7 (F7_tr (F7_A f1) n1)) (FM_tr w2 (FM_7 (m := m) y1) (by omega)) (by omega)) ⟨?_, y3, ?_, ?_⟩
          · rw [y2]; omega
          · rw [y4]; omega
          · rw [y1.1 81 (by omega)]; omega
        · obtain ⟨g1, g2, g3, -⟩ := hgd.2 q t w1
          simp only [w1] at Ke Ko
          have hX3 := TM_M w2 hX2
          have hbq := pS_b (X := X) q
          have FF : ∀ {v4 : zH}, F7 v3 v4 → FM n m v v4 := fun y => FM_tr (FM_7 (F7_tr (F7_A f1) n1)) (FM_tr w2 (FM_7 (m := m) y) (by omega)) (by omega)
          refine ⟨by first | decide | omega, ?_⟩
          refine c_M_closes ht hX3 w3.1 (by omega) g2 w3.2.1 w3.2.2.1 (by omega) (fun c v4 y1 y2 y3 y4 => ?_) (fun c v4 y1 y2 y3 y4 => ?_)
          · rw [if_pos c] at Ko
            exact Ko _ _ v4 rfl (FF y1) ⟨y2, y3, by rw [y4]; omega, by rw [y1.1 81 (by omega)]; exact w3.2.2.2⟩ (MR_A y1 w4)
          · rw [if_neg c] at Ke
            refine Ke _ v4 rfl (FF y1) ⟨?_, y3, by rw [y4]; omega, ?_⟩
            · rw [y2]; omega
            · rw [y1.1 81 (by omega), w3.2.2.2]; omega
  rw [if_neg c2] at Ke Ko
  have hgd := (pSumL_gd (X := X) (k := k)) (pS X p) (by omega) (by omega)
  refine ⟨fun q1 => ⟨fun q2 => ⟨by first | decide | omega, ?_⟩, fun q3 => ⟨by first | decide | omega, ?_⟩⟩, fun q4 => ⟨by first | decide | omega, ?_⟩⟩
  try (any_goals (exfalso; first | omega | exact absurd trivial (by assumption)))
  refine hsum n (pS X p) m _ _ hn hX1 h141 hM1 (by omega) (by omega) (by omega) (fun e v2 n1 n2 n3 => ?_) (fun q t v2 n1 n2 n3 n4 => ?_)
  · have he := hgd.1 e n1
    obtain ⟨a1, a2, a3, a4⟩ := n3
    simp only [n1] at Ke
    try simp (disch := omega) only [zup_e, zup_ak, zup_j, Int.zero_add, Int.reduceAdd, mz78, mz79, mz80, mz81, mz82, mz83, mz84, mz85, mz86, mz87, mz88, mz89, mz90, mz91, mz92, mz93, mz94, mz95, mz96, mz97, mz98, mz99, mz100, mz101, mz102, mz103, mz104, mz105, mz106, mz107, mz108, mz109, mz110, mz111, mz112, mz113, a2]
    refine ⟨by first | decide | omega, ⟨fun q1 => ?_, fun q2 => ⟨by first | decide | omega, ?_⟩⟩⟩
    try (any_goals (exfalso; first | omega | exact absurd trivial (by assumption)))
    exact Ke e v2 rfl (FM_tr (FM_7 (F7_A f1)) n2 (by omega)) ⟨a1, a2, a3, by omega⟩
  · obtain ⟨g1, g2, g3, -⟩ := hgd.2 q t n1
    simp only [n1] at Ke Ko
    rw [pCmp_nil] at Ke Ko
    have hgd2 := (pUnitB_gl (X := X) (k := k)) q (by omega) g2
    try simp (disch := omega) only [zup_e, zup_ak, zup_j, Int.zero_add, Int.reduceAdd, mz78, mz79, mz80, mz81, mz82, mz83, mz84, mz85, mz86, mz87, mz88, mz89, mz90, mz91, mz92, mz93, mz94, mz95, mz96, mz97, mz98, mz99, mz100, mz101, mz102, mz103, mz104, mz105, mz106, mz107, mz108, mz109, mz110, mz111, mz112, mz113, n3.2.1]
    refine ⟨by first | decide | omega, ⟨fun q1 => ?_, fun q2 => ⟨by first | decide | omega, ?_⟩⟩⟩
    try (any_goals (exfalso; first | omega | exact absurd trivial (by assumption)))
    refine hcmp n q (m + t.length) _ _ hn (TM_M n2 hX1) (h14_M n2 h141) n3 (by omega) g2 (by omega) (fun e v3 w1 w2 w3 => ?_) (fun r u v3 w1 w2 w3 w4 => ?_)
    · have he := hgd2.1 e w1
      obtain ⟨a1, a2, a3, a4⟩ := w3
      have w1' : pCmp X (pSumL X k) q [] = .error e := w1
      simp only [w1'] at Ke
      exact Ke e v3 rfl (FM_tr (FM_7 (F7_A f1)) (FM_tr n2 w2 (by omega)) (by omega)) ⟨a1, a2, a3, by omega⟩
    · have w1' : pCmp X (pSumL X k) q [] = .ok (r, u) := w1
      simp only [w1'] at Ko
      refine Ko r _ v3 rfl (FM_tr (FM_7 (F7_A f1)) (FM_tr n2 w2 (by omega)) (by omega)) ⟨w3.1, w3.2.1, w3.2.2.1, ?_⟩ (MR_join n4 w2 w4)
      rw [w3.2.2.2]
      simp
      omega
theorem c_M_goOnAndE {e : Int} (hw : v 77 4 = e) (he : e ≠ -1) (K : Q 0 v) : zC l G 1 (d + 1) h_M_goOnAnd [(2, 77)] v 115 Q := by
  refine zC_at ok_M_goOnAnd ck_M_goOnAnd rfl rfl (sg_M_goOnAnd_0 ?_)
  try simp (disch := omega) only [zup_e, zup_ak, zup_j, Int.zero_add, Int.reduceAdd, mz78, mz79, mz80, mz81, mz82, mz83, mz84, mz85, mz86, mz87, mz88, mz89, mz90, mz91, mz92, mz93, mz94, mz95, mz96, mz97, mz98, mz99, mz100, mz101, mz102, mz103, mz104, mz105, mz106, mz107, mz108, mz109, mz110, mz111, mz112, mz113, hw]
  refine ⟨by first | decide | omega, ⟨fun q1 => ?_, fun q2 => ⟨by first | decide | omega, ?_⟩⟩⟩
  try (any_goals (exfalso; first | omega | exact absurd trivial (by assumption)))
  exact K
theorem c_M_goOnOrE {e : Int} (hw : v 77 4 = e) (he : e ≠ -1) (K : Q 0 v) : zC l G 1 (d + 1) h_M_goOnOr [(2, 77)] v 115 Q := by
  refine zC_at ok_M_goOnOr ck_M_goOnOr rfl rfl (sg_M_goOnOr_0 ?_)
  try simp (disch := omega) only [zup_e, zup_ak, zup_j, Int.zero_add, Int.reduceAdd, mz78, mz79, mz80, mz81, mz82, mz83, mz84, mz85, mz86, mz87, mz88, mz89, mz90, mz91, mz92, mz93, mz94, mz95, mz96, mz97, mz98, mz99, mz100, mz101, mz102, mz103, mz104, mz105, mz106, mz107, mz108, mz109, mz110, mz111, mz112, mz113, hw]
  refine ⟨by first | decide | omega, ⟨fun q1 => ?_, fun q2 => ⟨by first | decide | omega, ?_⟩⟩⟩
  try (any_goals (exfalso; first | omega | exact absurd trivial (by assumption)))
  exact K
theorem ga_0 {X : zTp} {k D : Nat} {n m : Int} {v0 : zH} {R : zPx (List Int)} {QX : Nat → zH → Prop} (hk : k ≤ 6) (ht : tOk X) (hn : 0 ≤ n ∧ n ≤ 4) (hm : 0 ≤ m) (h14 : v0 77 14 = n) (hat : MRc l G X (D + 3) h_M_unit (pUc X k) k (4 + 2 * (k : Int)))
    (Ke : ∀ (e : Int) (v' : zH), R = .error e → FM n m v0 v' → ME v' X n m e k (5 + 2 * (k : Int)) → Q 0 v') (Ko : ∀ (q : Int) (t : List Int) (v' : zH), R = .ok (q, t) → FM n m v0 v' → Mo v' n q k (m + t.length) → MR v' (340 * n + m) t → Q 0 v') :
    ∀ (f : Nat) {v : zH} {q : Int} {acc : List Int}, X.2 - q < f → TM v X → FM n m v0 v → Mo v n q k (m + acc.length) → MR v (340 * n + m) acc → 0 ≤ q → q ≤ X.2 → m + acc.length ≤ q → R = pTl X isAnd (pUc X k) q acc →
    zJ l G 1 (D + 4) h_M_goOnAnd k_M_goOnAnd 115 Q QX 0 [(2, 77)] [] v 115
  | 0, v, q, acc, hf, hX, hF, hM, hW, h0, h1, hl, hR => by omega
  | f + 1, v, q, acc, hf, hX, hF, hM, hW, h0, h1, hl, hR => by
    have hn1 := ht.1
    have hb := pS_b (X := X) q
    have hgd0 : pGl X (pUc X k) := pGd_l (pUc_gd k)
    have h14M := h14_M hF h14
    rw [pTl_1 (fun _ h => (sep_and h).1) hgd0 h0 h1] at hR
    refine zgo ck_M_goOnAnd 300 0 _ _ _ _ rfl (sg_M_goOnAnd_0 ?_)
    try simp (disch := omega) only [zup_e, zup_ak, zup_j, Int.zero_add, Int.reduceAdd, mz78, mz79, mz80, mz81, mz82, mz83, mz84, mz85, mz86, mz87, mz88, mz89, mz90, mz91, mz92, mz93, mz94, mz95, mz96, mz97, mz98, mz99, mz100, mz101, mz102, mz103, mz104, mz105, mz106, mz107, mz108, mz109, mz110, mz111, mz112, mz113, hM.2.1]
    refine ⟨by first | decide | omega, ⟨fun q1 => ?_, fun q2 => ⟨by first | decide | omega, ?_⟩⟩⟩
    try (any_goals (exfalso; first | omega | exact absurd trivial (by assumption)))
    refine c_M_look ht hX hM.1 h0 h1 (fun v1 f1 f2 => ?_)
    have hM1 := Mo_A hM f1 f2
    have hX1 := TM_A f1 hX
    have h141 := h14_7 (F7_A f1) h14M
    by_cases hc : pC X q = 38
    rotate_left
    · rw [if_neg (by simp [isAnd, hc])] at hR
      refine ⟨fun q1 => ?_, fun q2 => ⟨by first | decide | omega, ⟨by first | decide | omega, by first | decide | omega⟩, by first | decide | omega, by first | decide | omega, ?_⟩⟩
      try (any_goals (exfalso; first | omega | exact absurd trivial (by assumption)))
      exact Ko _ _ v1 hR (FM_tr hF (FM_7 (m := m) (F7_A f1)) (by omega)) hM1 (MR_A (F7_A f1) hW)
    rw [if_pos (by simp [isAnd, hc])] at hR
    have hlt := pC_lt (X := X) (p := q) (by omega)
    show _
    simp only [f2]
    refine ⟨fun q1 => ?_, fun q2 => ⟨by first | decide | omega, ⟨by first | decide | omega, by first | decide | omega⟩, by first | decide | omega, by first | decide | omega, ?_⟩⟩
    try (any_goals (exfalso; first | omega | exact absurd trivial (by assumption)))
    have hx : FA v1 (zupd v1 77 3 (pS X q + 1)) := FA_up
    have hF2 : FM n m v0 (zupd v1 77 3 (pS X q + 1)) := FM_tr hF (FM_7 (m := m) (F7_A (FA_tr f1 hx))) (by omega)
    refine hat n (pS X q + 1) (m + acc.length) _ _ hn (TM_A hx hX1) (h14_7 (F7_A hx) h141) (Mo_up hM1) (by omega) (by omega) (by omega) (fun e v2 n1 n2 n3 => ?_) (fun q' t v2 n1 n2 n3 n4 => ?_)
    · have he := (hgd0 (pS X q + 1) (by omega) (by omega)).1 e n1
      obtain ⟨a1, a2, a3, a4⟩ := n3
      rw [n1] at hR
      refine ⟨by first | decide | omega, ?_⟩
      refine c_M_put hn (by omega) (h14_M n2 (h14_7 (F7_A hx) h141)) rfl (fun v3 p1 p2 p3 p4 p5 p6 => ?_)
      have w2 : v3 77 4 = e := by rw [p2]; exact a2
      refine zgo ck_M_goOnAnd 300 0 _ _ _ _ rfl (sg_M_goOnAnd_0 ?_)
      try simp (disch := omega) only [zup_e, zup_ak, zup_j, Int.zero_add, Int.reduceAdd, mz78, mz79, mz80, mz81, mz82, mz83, mz84, mz85, mz86, mz87, mz88, mz89, mz90, mz91, mz92, mz93, mz94, mz95, mz96, mz97, mz98, mz99, mz100, mz101, mz102, mz103, mz104, mz105, mz106, mz107, mz108, mz109, mz110, mz111, mz112, mz113, w2]
      refine ⟨by first | decide | omega, ⟨fun q1 => ?_, fun q2 => ⟨by first | decide | omega, ?_⟩⟩⟩
      try (any_goals (exfalso; first | omega | exact absurd trivial (by assumption)))
      refine Ke e v3 hR (FM_tr hF2 (FM_tr n2 p1 (by omega)) (by omega)) ⟨?_, w2, ?_, ?_⟩
      · rw [p2]; omega
      · rw [p2]; omega
      · rw [p3]; omega
    · obtain ⟨g1, g2, g3⟩ := (hgd0 (pS X q + 1) (by omega) (by omega)).2 q' t n1
      rw [n1] at hR
      simp only [hc] at hR
      refine ⟨by first | decide | omega, ?_⟩
      refine c_M_put hn (by omega) (h14_M n2 (h14_7 (F7_A hx) h141)) n3.2.2.2 (fun v3 p1 p2 p3 p4 p5 p6 => ?_)
      have e2 : m + (acc.length : Int) + t.length = m + ((acc ++ t).length : Int) := by simp; omega
      rw [e2] at p3 p4 p5 p6
      have hMR : MR v3 (340 * n + m) (acc ++ t ++ [-38]) := MR_put (MR_join (MR_A (F7_A (FA_tr f1 hx)) hW) n2 n4) (by rw [p4]; rfl) (by rw [p5]; rfl) p6
      refine ga_0 hk ht hn hm h14 hat Ke Ko f (acc := acc ++ t ++ [-38]) (by omega) (TM_M (FM_tr n2 p1 (by omega)) (TM_A hx hX1)) (FM_tr hF2 (FM_tr n2 p1 (by omega)) (by omega)) ⟨?_, ?_, ?_, ?_⟩ hMR (by omega) g2 (by simp; omega) hR
      · rw [p2]; exact n3.1
      · rw [p2]; exact n3.2.1
      · rw [p2]; exact n3.2.2.1
      · rw [p3]; simp; omega
theorem c_M_goOnAnd {X : zTp} {k D : Nat} (hk : k ≤ 6) (ht : tOk X) (hat : MRc l G X (D + 3) h_M_unit (pUc X k) k (4 + 2 * (k : Int))) : MTc l G X (D + 4) h_M_goOnAnd (pTl X isAnd (pUc X k)) k (5 + 2 * (k : Int)) := by
  intro n q m acc v Q hn hX h14 hM hW h0 h1 hm ha hl Ke Ko
  exact zC_in ok_M_goOnAnd rfl (Nat.le_of_ble_eq_true rfl) (ga_0 hk ht hn hm h14 hat Ke Ko ((X.2 - q).toNat + 1) (by omega) hX FM_rf hM hW h0 h1 hl rfl)
theorem go_0 {X : zTp} {k D : Nat} {n m : Int} {v0 : zH} {R : zPx (List Int)} {QX : Nat → zH → Prop} (hk : k ≤ 6) (ht : tOk X) (hn : 0 ≤ n ∧ n ≤ 4) (hm : 0 ≤ m) (h14 : v0 77 14 = n) (hat : MRc l G X (D + 4) h_M_unit (pUc X k) k (4 + 2 * (k : Int))) (hta : MTc l G X (D + 4) h_M_goOnAnd (pTl X isAnd (pUc X k)) k (5 + 2 * (k : Int)))
    (Ke : ∀ (e : Int) (v' : zH), R = .error e → FM n m v0 v' → ME v' X n m e k (6 + 2 * (k : Int)) → Q 0 v') (Ko : ∀ (q : Int) (t : List Int) (v' : zH), R = .ok (q, t) → FM n m v0 v' → Mo v' n q k (m + t.length) → MR v' (340 * n + m) t → Q 0 v') :
    ∀ (f : Nat) {v : zH} {q : Int} {acc : List Int}, X.2 - q < f → TM v X → FM n m v0 v → Mo v n q k (m + acc.length) → MR v (340 * n + m) acc → 0 ≤ q → q ≤ X.2 → m + acc.length ≤ q → R = pTl X isOr (pTruth X (pUc X k)) q acc →
    zJ l G 1 (D + 5) h_M_goOnOr k_M_goOnOr 115 Q QX 0 [(2, 77)] [] v 115
  | 0, v, q, acc, hf, hX, hF, hM, hW, h0, h1, hl, hR => by omega
  | f + 1, v, q, acc, hf, hX, hF, hM, hW, h0, h1, hl, hR => by
    have hn1 := ht.1
    have hb := pS_b (X := X) q
    have hgd0 : pGl X (pUc X k) := pGd_l (pUc_gd k)
    have hgdT : pGl X (pTruth X (pUc X k)) := pGd_l (pSep_gd (fun _ h => sep_and h) (pUc_gd k))
    have h14M := h14_M hF h14
    rw [pTl_1 (fun _ h => (sep_or h).1) hgdT h0 h1] at hR
    refine zgo ck_M_goOnOr 300 0 _ _ _ _ rfl (sg_M_goOnOr_0 ?_)
    try simp (disch := omega) only [zup_e, zup_ak, zup_j, Int.zero_add, Int.reduceAdd, mz78, mz79, mz80, mz81, mz82, mz83, mz84, mz85, mz86, mz87, mz88, mz89, mz90, mz91, mz92, mz93, mz94, mz95, mz96, mz97, mz98, mz99, mz100, mz101, mz102, mz103, mz104, mz105, mz106, mz107, mz108, mz109, mz110, mz111, mz112, mz113, hM.2.1]
    refine ⟨by first | decide | omega, ⟨fun q1 => ?_, fun q2 => ⟨by first | decide | omega, ?_⟩⟩⟩
    try (any_goals (exfalso; first | omega | exact absurd trivial (by assumption)))
    refine c_M_look ht hX hM.1 h0 h1 (fun v1 f1 f2 => ?_)
    have hM1 := Mo_A hM f1 f2
    have hX1 := TM_A f1 hX
    have h141 := h14_7 (F7_A f1) h14M
    by_cases hc : pC X q = 124
    rotate_left
    · rw [if_neg (by simp [isOr, hc])] at hR
      refine ⟨fun q1 => ?_, fun q2 => ⟨by first | decide | omega, ⟨by first | decide | omega, by first | decide | omega⟩, by first | decide | omega, by first | decide | omega, ?_⟩⟩
      try (any_goals (exfalso; first | omega | exact absurd trivial (by assumption)))
      exact Ko _ _ v1 hR (FM_tr hF (FM_7 (m := m) (F7_A f1)) (by omega)) hM1 (MR_A (F7_A f1) hW)
    rw [if_pos (by simp [isOr, hc])] at hR
    have hlt := pC_lt (X := X) (p := q) (by omega)
    show _
    simp only [f2]
    refine ⟨fun q1 => ?_, fun q2 => ⟨by first | decide | omega, ⟨by first | decide | omega, by first | decide | omega⟩, by first | decide | omega, by first | decide | omega, ?_⟩⟩
    try (any_goals (exfalso; first | omega | exact absurd trivial (by assumption)))
    have hx : FA v1 (zupd v1 77 3 (pS X q + 1)) := FA_up
    have hX2 := TM_A hx hX1
    have h142 := h14_7 (F7_A hx) h141
    have hF2 : FM n m v0 (zupd v1 77 3 (pS X q + 1)) := FM_tr hF (FM_7 (m := m) (F7_A (FA_tr f1 hx))) (by omega)
    have hT : pTruth X (pUc X k) (pS X q + 1) = (match pUc X k (pS X q + 1) with
      | .error e => .error e
      | .ok (q, t) => pTl X isAnd (pUc X k) q t) := rfl
    refine hat n (pS X q + 1) (m + acc.length) _ _ hn hX2 h142 (Mo_up hM1) (by omega) (by omega) (by omega) (fun e v2 n1 n2 n3 => ?_) (fun q' t v2 n1 n2 n3 n4 => ?_)
    · have he := (hgd0 (pS X q + 1) (by omega) (by omega)).1 e n1
      obtain ⟨a1, a2, a3, a4⟩ := n3
      rw [n1] at hT
      rw [hT] at hR
      refine ⟨by first | decide | omega, ?_⟩
      refine c_M_goOnAndE a2 (by omega) ?_
      refine ⟨by first | decide | omega, ?_⟩
      refine c_M_put hn (by omega) (h14_M n2 h142) rfl (fun v3 p1 p2 p3 p4 p5 p6 => ?_)
      have w2 : v3 77 4 = e := by rw [p2]; exact a2
      refine zgo ck_M_goOnOr 300 0 _ _ _ _ rfl (sg_M_goOnOr_0 ?_)
      try simp (disch := omega) only [zup_e, zup_ak, zup_j, Int.zero_add, Int.reduceAdd, mz78, mz79, mz80, mz81, mz82, mz83, mz84, mz85, mz86, mz87, mz88, mz89, mz90, mz91, mz92, mz93, mz94, mz95, mz96, mz97, mz98, mz99, mz100, mz101, mz102, mz103, mz104, mz105, mz106, mz107, mz108, mz109, mz110, mz111, mz112, mz113, w2]
      refine ⟨by first | decide | omega, ⟨fun q1 => ?_, fun q2 => ⟨by first | decide | omega, ?_⟩⟩⟩
      try (any_goals (exfalso; first | omega | exact absurd trivial (by assumption)))
      refine Ke e v3 hR (FM_tr hF2 (FM_tr n2 p1 (by omega)) (by omega)) ⟨?_, w2, ?_, ?_⟩
      · rw [p2]; omega
      · rw [p2]; omega
      · rw [p3]; omega
    · obtain ⟨g1, g2, g3⟩ := (hgd0 (pS X q + 1) (by omega) (by omega)).2 q' t n1
      have ht1 := pUc_nn ht (by omega) (by omega) n1
      rw [n1] at hT
      simp only at hT
      have hgl := pTl_gl (m := m + acc.length + 1) (fun _ h => (sep_and h).1) hgd0 (q := q') (acc := t) (by omega) g2 (by omega) ht1 (by omega)
      refine ⟨by first | decide | omega, ?_⟩
      refine hta n q' (m + acc.length) t _ _ hn (TM_M n2 hX2) (h14_M n2 h142) n3 n4 (by omega) g2 (by omega) ht1 (by omega) (fun e v3 w1 w2 w3 => ?_) (fun r u v3 w1 w2 w3 w4 => ?_)
      · have he := hgl.1 e w1
        obtain ⟨a1, a2, a3, a4⟩ := w3
        rw [hT, w1] at hR
        refine ⟨by first | decide | omega, ?_⟩
        refine c_M_put hn (by omega) (h14_M w2 (h14_M n2 h142)) rfl (fun v4 p1 p2 p3 p4 p5 p6 => ?_)
        have w4 : v4 77 4 = e := by rw [p2]; exact a2
        refine zgo ck_M_goOnOr 300 0 _ _ _ _ rfl (sg_M_goOnOr_0 ?_)
        try simp (disch := omega) only [zup_e, zup_ak, zup_j, Int.zero_add, Int.reduceAdd, mz78, mz79, mz80, mz81, mz82, mz83, mz84, mz85, mz86, mz87, mz88, mz89, mz90, mz91, mz92, mz93, mz94, mz95, mz96, mz97, mz98, mz99, mz100, mz101, mz102, mz103, mz104, mz105, mz106, mz107, mz108, mz109, mz110, mz111, mz112, mz113, w4]
        refine ⟨by first | decide | omega, ⟨fun q1 => ?_, fun q2 => ⟨by first | decide | omega, ?_⟩⟩⟩
        try (any_goals (exfalso; first | omega | exact absurd trivial (by assumption)))
        refine Ke e v4 hR (FM_tr hF2 (FM_tr n2 (FM_tr w2 p1 (by omega)) (by omega)) (by omega)) ⟨?_, w4, ?_, ?_⟩
        · rw [p2]; omega
        · rw [p2]; omega
        · rw [p3]; omega
      · obtain ⟨y1, y2, y3⟩ := hgl.2 r u w1
        rw [hT, w1] at hR
        simp only [hc] at hR
        refine ⟨by first | decide | omega, ?_⟩
        refine c_M_put hn (by omega) (h14_M w2 (h14_M n2 h142)) w3.2.2.2 (fun v4 p1 p2 p3 p4 p5 p6 => ?_)
        have e2 : m + (acc.length : Int) + u.length = m + ((acc ++ u).length : Int) := by simp; omega
        rw [e2] at p3 p4 p5 p6
        have hF3 : FM n (m + acc.length) (zupd v1 77 3 (pS X q + 1)) v3 := FM_tr n2 w2 (by omega)
        have hMR : MR v4 (340 * n + m) (acc ++ u ++ [-124]) := MR_put (MR_join (MR_A (F7_A (FA_tr f1 hx)) hW) hF3 w4) (by rw [p4]; rfl) (by rw [p5]; rfl) p6
        have hF4 : FM n (m + acc.length) (zupd v1 77 3 (pS X q + 1)) v4 := FM_tr hF3 p1 (by omega)
        refine go_0 hk ht hn hm h14 hat hta Ke Ko f (acc := acc ++ u ++ [-124]) (by omega) (TM_M hF4 hX2) (FM_tr hF2 hF4 (by omega)) ⟨?_, ?_, ?_, ?_⟩ hMR (by omega) y2 (by simp; omega) hR
        · rw [p2]; exact w3.1
        · rw [p2]; exact w3.2.1
        · rw [p2]; exact w3.2.2.1
        · rw [p3]; simp; omega
theorem c_M_goOnOr {X : zTp} {k D : Nat} (hk : k ≤ 6) (ht : tOk X) (hat : MRc l G X (D + 4) h_M_unit (pUc X k) k (4 + 2 * (k : Int))) (hta : MTc l G X (D + 4) h_M_goOnAnd (pTl X isAnd (pUc X k)) k (5 + 2 * (k : Int))) : MTc l G X (D + 5) h_M_goOnOr (pTl X isOr (pTruth X (pUc X k))) k (6 + 2 * (k : Int)) := by
  intro n q m acc v Q hn hX h14 hM hW h0 h1 hm ha hl Ke Ko
  exact zC_in ok_M_goOnOr rfl (Nat.le_of_ble_eq_true rfl) (go_0 hk ht hn hm h14 hat hta Ke Ko ((X.2 - q).toNat + 1) (by omega) hX FM_rf hM hW h0 h1 hl rfl)
theorem c_M_condition {X : zTp} {k D : Nat} (hk : k ≤ 6) (ht : tOk X) (hat : MRc l G X (D + 5) h_M_unit (pUc X k) k (4 + 2 * (k : Int))) (hta : MTc l G X (D + 5) h_M_goOnAnd (pTl X isAnd (pUc X k)) k (5 + 2 * (k : Int))) (hto : MTc l G X (D + 5) h_M_goOnOr (pTl X isOr (pTruth X (pUc X k))) k (6 + 2 * (k : Int))) : MRc l G X (D + 6) h_M_condition (pCond X (pUc X k)) k (6 + 2 * (k : Int)) := by
  intro n p m v Q hn hX h14 hM h0 h1 hm Ke Ko
  have hn1 := ht.1
  have hgd0 : pGl X (pUc X k) := pGd_l (pUc_gd k)
  have hgdT : pGl X (pTruth X (pUc X k)) := pGd_l (pSep_gd (fun _ h => sep_and h) (pUc_gd k))
  have hC : pCond X (pUc X k) p = (match pTruth X (pUc X k) p with
    | .error e => .error e
    | .ok (q, t) => pTl X isOr (pTruth X (pUc X k)) q t) := rfl
  have hT : pTruth X (pUc X k) p = (match pUc X k p with
    | .error e => .error e
    | .ok (q, t) => pTl X isAnd (pUc X k) q t) := rfl
  refine zC_at ok_M_condition ck_M_condition rfl rfl (sg_M_condition_0 ?_)
  try simp (disch := omega) only [zup_e, zup_ak, zup_j, Int.zero_add, Int.reduceAdd, mz78, mz79, mz80, mz81, mz82, mz83, mz84, mz85, mz86, mz87, mz88, mz89, mz90, mz91, mz92, mz93, mz94, mz95, mz96, mz97, mz98, mz99, mz100, mz101, mz102, mz103, mz104, mz105, mz106, mz107, mz108, mz109, mz110, mz111, mz112, mz113]
  refine ⟨by first | decide | omega, ?_⟩
  refine hat n p m _ _ hn hX h14 hM h0 h1 hm (fun e v1 n1 n2 n3 => ?_) (fun q t v1 n1 n2 n3 n4 => ?_)
  · have he := (hgd0 p h0 h1).1 e n1
    obtain ⟨a1, a2, a3, a4⟩ := n3
    rw [n1] at hT
    rw [hT] at hC
    refine ⟨by first | decide | omega, ?_⟩
    refine c_M_goOnAndE a2 (by omega) ?_
    refine ⟨by first | decide | omega, ?_⟩
    refine c_M_goOnOrE a2 (by omega) ?_
    exact Ke e v1 hC n2 ⟨a1, a2, a3, by omega⟩
  · obtain ⟨g1, g2, g3⟩ := (hgd0 p h0 h1).2 q t n1
    have ht1 := pUc_nn ht (by omega) (by omega) n1
    rw [n1] at hT
    simp only at hT
    have hgl := pTl_gl (m := m) (fun _ h => (sep_and h).1) hgd0 (q := q) (acc := t) (by omega) g2 (by omega) ht1 (by omega)
    refine ⟨by first | decide | omega, ?_⟩
    refine hta n q m t _ _ hn (TM_M n2 hX) (h14_M n2 h14) n3 n4 (by omega) g2 (by omega) ht1 (by omega) (fun e v3 w1 w2 w3 => ?_) (fun r u v3 w1 w2 w3 w4 => ?_)
    · have he := hgl.1 e w1
      obtain ⟨a1, a2, a3, a4⟩ := w3
      rw [hT, w1] at hC
      refine ⟨by first | decide | omega, ?_⟩
      refine c_M_goOnOrE a2 (by omega) ?_
      exact Ke e v3 hC (FM_tr n2 w2 (by omega)) ⟨a1, a2, a3, by omega⟩
    · obtain ⟨y1, y2, y3⟩ := hgl.2 r u w1
      have hu1 : 1 ≤ u.length := by
        have hg := (pSep_gd (fun _ h => sep_and h) (pUc_gd (X := X) k)) p h0 h1
        obtain ⟨z1, z2, z3, z4⟩ := hg.2 r u (hT.trans w1)
        have := tRn_nn (z4 [] (by simp; omega))
        cases u with
        | nil => exact absurd rfl this
        | cons a b => simp
      rw [hT, w1] at hC
      simp only at hC
      have hF3 : FM n m v v3 := FM_tr n2 w2 (by omega)
      refine ⟨by first | decide | omega, ?_⟩
      refine hto n r m u _ _ hn (TM_M hF3 hX) (h14_M hF3 h14) w3 w4 (by omega) y2 (by omega) hu1 (by omega) (fun e v4 x1 x2 x3 => ?_) (fun r2 u2 v4 x1 x2 x3 x4 => ?_)
      · rw [x1] at hC
        exact Ke e v4 hC (FM_tr hF3 x2 (by omega)) x3
      · rw [x1] at hC
        exact Ko r2 u2 v4 hC (FM_tr hF3 x2 (by omega)) x3 x4
theorem c_M_deep {X : zTp} (ht : tOk X) : ∀ (k d : Nat), k ≤ 6 → MRc l G X (d + 4 * k + 8) h_M_unit (pUc X k) k (4 + 2 * (k : Int)) ∧ MTc l G X (d + 4 * k + 9) h_M_goOnAnd (pTl X isAnd (pUc X k)) k (5 + 2 * (k : Int)) ∧ MTc l G X (d + 4 * k + 10) h_M_goOnOr (pTl X isOr (pTruth X (pUc X k))) k (6 + 2 * (k : Int)) ∧ MRc l G X (d + 4 * k + 11) h_M_condition (pCond X (pUc X k)) k (6 + 2 * (k : Int))
  | k, d, hk => by
    -- a unit at every depth that is enough
    have U : ∀ d : Nat, MRc l G X (d + 4 * k + 8) h_M_unit (pUc X k) k (4 + 2 * (k : Int)) := fun d => by
      have s7 := c_M_sumK (l := l) (G := G) (X := X) ht k (d + k + 1) hk
      have s6 := c_M_sumK (l := l) (G := G) (X := X) ht k (d + k) hk
      rw [show d + k + 1 + 3 * k + 6 = d + 4 * k + 4 + 3 by omega] at s7
      rw [show d + k + 3 * k + 6 = d + 4 * k + 3 + 3 by omega] at s6
      have c := c_M_compare (D := d + 4 * k + 3) hk ht s6
      refine c_M_unit (D := d + 4 * k + 4) hk ht s7 c (fun k' e => ?_) (fun k' e => ?_)
      · subst e
        have h := (c_M_deep ht k' (d + 3) (by omega)).1
        rw [show d + 3 + 4 * k' + 8 = d + 4 * (k' + 1) + 4 + 3 by omega] at h
        exact h
      · subst e
        have h := (c_M_deep ht k' d (by omega)).2.2.2
        rw [show d + 4 * k' + 11 = d + 4 * (k' + 1) + 4 + 3 by omega] at h
        exact h
    have A : ∀ d : Nat, MTc l G X (d + 4 * k + 9) h_M_goOnAnd (pTl X isAnd (pUc X k)) k (5 + 2 * (k : Int)) := fun d => by
      have h := U d
      rw [show d + 4 * k + 8 = d + 4 * k + 5 + 3 by omega] at h
      exact c_M_goOnAnd (D := d + 4 * k + 5) hk ht h
    have O : ∀ d : Nat, MTc l G X (d + 4 * k + 10) h_M_goOnOr (pTl X isOr (pTruth X (pUc X k))) k (6 + 2 * (k : Int)) := fun d => by
      have h := U (d + 1)
      rw [show d + 1 + 4 * k + 8 = d + 4 * k + 5 + 4 by omega] at h
      have a := A d
      rw [show d + 4 * k + 9 = d + 4 * k + 5 + 4 by omega] at a
      exact c_M_goOnOr (D := d + 4 * k + 5) hk ht h a
    refine ⟨U d, A d, O d, ?_⟩
    have h := U (d + 2)
    rw [show d + 2 + 4 * k + 8 = d + 4 * k + 5 + 5 by omega] at h
    have a := A (d + 1)
    rw [show d + 1 + 4 * k + 9 = d + 4 * k + 5 + 5 by omega] at a
    have o := O d
    rw [show d + 4 * k + 10 = d + 4 * k + 5 + 5 by omega] at o
    exact c_M_condition (D := d + 4 * k + 5) hk ht h a o
end
