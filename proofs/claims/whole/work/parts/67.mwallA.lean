/-! THE REFERENCE: a wall's numbers and items read -/
def kCh (κ : Int) : Int := if κ = 0 then 115 else if κ = 1 then 111 else 110
def KPm (v : zH) (a T : Int) (g : Int → Int) : Prop := ∀ j : Int, 0 ≤ j → j < T → v a j = g j
def FI (a : Int) (v v' : zH) : Prop := (∀ b : Int, b ≠ 77 → b ≠ a → v' b = v b) ∧ ∀ k : Int, k ≠ 3 → k ≠ 4 → k ≠ 5 → v' 77 k = v 77 k
theorem FI_tr {a : Int} {u v w : zH} (h : FI a u v) (g : FI a v w) : FI a u w := ⟨fun b q r => (g.1 b q r).trans (h.1 b q r), fun k q r s => (g.2 k q r s).trans (h.2 k q r s)⟩
theorem FI_rf {a : Int} {v : zH} : FI a v v := ⟨fun _ _ _ => rfl, fun _ _ _ _ => rfl⟩
theorem FI_7 {a : Int} {v v' : zH} (h : F7 v v') : FI a v v' := ⟨fun b q _ => h.1 b q, h.2⟩
theorem FI_up {a j x : Int} {v : zH} (h : a ≠ 77) : FI a v (zupd v a j x) := ⟨fun b _ q => zup_a q, fun k _ _ _ => zup_ak (Ne.symm h)⟩
theorem TM_I {a : Int} {v v' : zH} {X : zTp} (h : FI a v v') (ha : a ≠ 78) (k : TM v X) : TM v' X := TM_fr (h.2 2 (by omega) (by omega) (by omega)) (h.1 78 (by omega) (Ne.symm ha)) k
/-- a fault: told, or yet to be told by whoever looks on -/
def ErS (X : zTp) (v : zH) (e : Int) : Prop := ((v 77 4 = e ∧ 0 ≤ e) ∧ 0 ≤ v 77 3 ∧ v 77 3 ≤ X.2) ∨ (v 77 4 = -1 ∧ v 77 3 = e ∧ pS X e = e ∧ (0 ≤ e ∧ e ≤ X.2) ∧ pC X e ≠ 59 ∧ pC X e ≠ -1)
theorem isDg_at {X : zTp} {r : Int} : isDg (if r < X.2 then X.1 r else -1) = pDi X r := by
  rw [Bool.eq_iff_iff, isDg_iff, pDi_iff]
  split <;> omega
theorem kIt_59 {κ : Int} : kIt κ 59 = -1 := by
  unfold kIt
  repeat' split
  all_goals first | rfl | omega
section
variable {l : Launch} {G : zG} {d : Nat} {v : zH} {Q : Int → zH → Prop}
theorem c_M_itemOf {κ c : Int} (hκ : κ = 0 ∨ κ = 1 ∨ κ = 2) (K : Q (kIt κ c) v) : zC l G 1 (d + 1) h_M_itemOf [(0, kCh κ), (0, c)] v 115 Q := by
  unfold kIt at K
  rcases hκ with rfl | rfl | rfl
  · rw [show kCh 0 = 115 from rfl]
    refine zC_at ok_M_itemOf ck_M_itemOf rfl rfl (sg_M_itemOf_0 ?_)
    refine ⟨fun q1 => ⟨fun q2 => ⟨fun q3 => ⟨fun q4 => ?_, fun q5 => ?_⟩, fun q6 => ?_⟩, fun q7 => ⟨fun q8 => ⟨fun q9 => ⟨fun q10 => ⟨fun q11 => ⟨fun q12 => ?_, fun q13 => ?_⟩, fun q14 => ?_⟩, fun q15 => ?_⟩, fun q16 => ?_⟩, fun q17 => ?_⟩⟩, fun q18 => ⟨fun q19 => ⟨fun q20 => ⟨fun q21 => ?_, fun q22 => ?_⟩, fun q23 => ?_⟩, fun q24 => ?_⟩⟩
    try (any_goals (exfalso; first | omega | exact absurd trivial (by assumption)))
    all_goals (repeat (first | rw [if_pos (by omega)] at K | rw [if_neg (by omega)] at K))
    all_goals exact K
  · rw [show kCh 1 = 111 from rfl]
    refine zC_at ok_M_itemOf ck_M_itemOf rfl rfl (sg_M_itemOf_0 ?_)
    refine ⟨fun q1 => ⟨fun q2 => ⟨fun q3 => ⟨fun q4 => ?_, fun q5 => ?_⟩, fun q6 => ?_⟩, fun q7 => ⟨fun q8 => ⟨fun q9 => ⟨fun q10 => ⟨fun q11 => ⟨fun q12 => ?_, fun q13 => ?_⟩, fun q14 => ?_⟩, fun q15 => ?_⟩, fun q16 => ?_⟩, fun q17 => ?_⟩⟩, fun q18 => ⟨fun q19 => ⟨fun q20 => ⟨fun q21 => ?_, fun q22 => ?_⟩, fun q23 => ?_⟩, fun q24 => ?_⟩⟩
    try (any_goals (exfalso; first | omega | exact absurd trivial (by assumption)))
    all_goals (repeat (first | rw [if_pos (by omega)] at K | rw [if_neg (by omega)] at K))
    all_goals exact K
  · rw [show kCh 2 = 110 from rfl]
    refine zC_at ok_M_itemOf ck_M_itemOf rfl rfl (sg_M_itemOf_0 ?_)
    refine ⟨fun q1 => ⟨fun q2 => ⟨fun q3 => ⟨fun q4 => ?_, fun q5 => ?_⟩, fun q6 => ?_⟩, fun q7 => ⟨fun q8 => ⟨fun q9 => ⟨fun q10 => ⟨fun q11 => ⟨fun q12 => ?_, fun q13 => ?_⟩, fun q14 => ?_⟩, fun q15 => ?_⟩, fun q16 => ?_⟩, fun q17 => ?_⟩⟩, fun q18 => ⟨fun q19 => ⟨fun q20 => ⟨fun q21 => ?_, fun q22 => ?_⟩, fun q23 => ?_⟩, fun q24 => ?_⟩⟩
    try (any_goals (exfalso; first | omega | exact absurd trivial (by assumption)))
    all_goals (repeat (first | rw [if_pos (by omega)] at K | rw [if_neg (by omega)] at K))
    all_goals exact K
theorem c_M_highest {κ k : Int} (hκ : κ = 0 ∨ κ = 1 ∨ κ = 2) (K : Q (kHi κ k) v) : zC l G 1 (d + 1) h_M_highest [(0, kCh κ), (0, k)] v 115 Q := by
  unfold kHi at K
  rcases hκ with rfl | rfl | rfl
  · rw [show kCh 0 = 115 from rfl]
    refine zC_at ok_M_highest ck_M_highest rfl rfl (sg_M_highest_0 ?_)
    refine ⟨fun q1 => ⟨fun q2 => ⟨fun q3 => ?_, fun q4 => ?_⟩, fun q5 => ⟨fun q6 => ⟨fun q7 => ⟨fun q8 => ?_, fun q9 => ?_⟩, fun q10 => ?_⟩, fun q11 => ?_⟩⟩, fun q12 => ⟨fun q13 => ⟨fun q14 => ?_, fun q15 => ?_⟩, fun q16 => ?_⟩⟩
    try (any_goals (exfalso; first | omega | exact absurd trivial (by assumption)))
    all_goals (repeat (first | rw [if_pos (by omega)] at K | rw [if_neg (by omega)] at K))
    all_goals exact K
  · rw [show kCh 1 = 111 from rfl]
    refine zC_at ok_M_highest ck_M_highest rfl rfl (sg_M_highest_0 ?_)
    refine ⟨fun q1 => ⟨fun q2 => ⟨fun q3 => ?_, fun q4 => ?_⟩, fun q5 => ⟨fun q6 => ⟨fun q7 => ⟨fun q8 => ?_, fun q9 => ?_⟩, fun q10 => ?_⟩, fun q11 => ?_⟩⟩, fun q12 => ⟨fun q13 => ⟨fun q14 => ?_, fun q15 => ?_⟩, fun q16 => ?_⟩⟩
    try (any_goals (exfalso; first | omega | exact absurd trivial (by assumption)))
    all_goals (repeat (first | rw [if_pos (by omega)] at K | rw [if_neg (by omega)] at K))
    all_goals exact K
  · rw [show kCh 2 = 110 from rfl]
    refine zC_at ok_M_highest ck_M_highest rfl rfl (sg_M_highest_0 ?_)
    refine ⟨fun q1 => ⟨fun q2 => ⟨fun q3 => ?_, fun q4 => ?_⟩, fun q5 => ⟨fun q6 => ⟨fun q7 => ⟨fun q8 => ?_, fun q9 => ?_⟩, fun q10 => ?_⟩, fun q11 => ?_⟩⟩, fun q12 => ⟨fun q13 => ⟨fun q14 => ?_, fun q15 => ?_⟩, fun q16 => ?_⟩⟩
    try (any_goals (exfalso; first | omega | exact absurd trivial (by assumption)))
    all_goals (repeat (first | rw [if_pos (by omega)] at K | rw [if_neg (by omega)] at K))
    all_goals exact K
theorem c_M_usual {κ k : Int} (hκ : κ = 0 ∨ κ = 1 ∨ κ = 2) (hk : 0 ≤ k) (K : Q (kDf κ k) v) : zC l G 1 (d + 1) h_M_usual [(0, kCh κ), (0, k)] v 115 Q := by
  unfold kDf at K
  rcases hκ with rfl | rfl | rfl
  · rw [show kCh 0 = 115 from rfl]
    refine zC_at ok_M_usual ck_M_usual rfl rfl (sg_M_usual_0 ?_)
    refine ⟨fun q1 => ⟨fun q2 => ⟨fun q3 => ?_, fun q4 => ?_⟩, fun q5 => ⟨fun q6 => ⟨fun q7 => ⟨fun q8 => ?_, fun q9 => ?_⟩, fun q10 => ?_⟩, fun q11 => ?_⟩⟩, fun q12 => ⟨fun q13 => ?_, fun q14 => ?_⟩⟩
    try (any_goals (exfalso; first | omega | exact absurd trivial (by assumption)))
    all_goals (repeat (first | rw [if_pos (by omega)] at K | rw [if_neg (by omega)] at K))
    all_goals exact K
  · rw [show kCh 1 = 111 from rfl]
    refine zC_at ok_M_usual ck_M_usual rfl rfl (sg_M_usual_0 ?_)
    refine ⟨fun q1 => ⟨fun q2 => ⟨fun q3 => ?_, fun q4 => ?_⟩, fun q5 => ⟨fun q6 => ⟨fun q7 => ⟨fun q8 => ?_, fun q9 => ?_⟩, fun q10 => ?_⟩, fun q11 => ?_⟩⟩, fun q12 => ⟨fun q13 => ?_, fun q14 => ?_⟩⟩
    try (any_goals (exfalso; first | omega | exact absurd trivial (by assumption)))
    all_goals (repeat (first | rw [if_pos (by omega)] at K | rw [if_neg (by omega)] at K))
    all_goals exact K
  · rw [show kCh 2 = 110 from rfl]
    refine zC_at ok_M_usual ck_M_usual rfl rfl (sg_M_usual_0 ?_)
    refine ⟨fun q1 => ⟨fun q2 => ⟨fun q3 => ?_, fun q4 => ?_⟩, fun q5 => ⟨fun q6 => ⟨fun q7 => ⟨fun q8 => ?_, fun q9 => ?_⟩, fun q10 => ?_⟩, fun q11 => ?_⟩⟩, fun q12 => ⟨fun q13 => ?_, fun q14 => ?_⟩⟩
    try (any_goals (exfalso; first | omega | exact absurd trivial (by assumption)))
    all_goals (repeat (first | rw [if_pos (by omega)] at K | rw [if_neg (by omega)] at K))
    all_goals exact K
theorem c_M_number {X : zTp} {p lo hi : Int} (ht : tOk X) (hX : TM v X) (hp : v 77 3 = p) (h0 : 0 ≤ p) (h1 : p ≤ X.2) (hw : v 77 4 = -1)
    (Ke : ∀ (e x : Int) (v' : zH), (pNm X 2 p = .error e ∨ ∃ q y : Int, pNm X 2 p = .ok (q, y) ∧ ¬ (lo ≤ y ∧ y ≤ hi) ∧ e = q - 1) → F7 v v' → v' 77 4 = e → 0 ≤ e → (0 ≤ v' 77 3 ∧ v' 77 3 ≤ X.2) → Q x v')
    (Ko : ∀ (q x : Int) (v' : zH), pNm X 2 p = .ok (q, x) → lo ≤ x → x ≤ hi → FA v v' → v' 77 3 = q → Q x v') : zC l G 1 (d + 3) h_M_number [(2, 77), (0, lo), (0, hi)] v 115 Q := by
  have hn := ht.1
  have hb := pS_b (X := X) p
  refine zC_at ok_M_number ck_M_number rfl rfl (sg_M_number_0 ?_)
  try simp (disch := omega) only [zup_e, zup_ak, zup_j, Int.zero_add, Int.reduceAdd, mz78, mz79, mz80, mz81, mz82, mz83, mz84, mz85, mz86, mz87, mz88, mz89, mz90, mz91, mz92, mz93, mz94, mz95, mz96, mz97, mz98, mz99, mz100, mz101, mz102, mz103, mz104, mz105, mz106, mz107, mz108, mz109, mz110, mz111, mz112, mz113]
  refine ⟨by first | decide | omega | contradiction | exact absurd trivial (by assumption), ?_⟩
  try (any_goals (exfalso; first | omega | exact absurd trivial (by assumption)))
  refine c_M_look ht hX hp h0 h1 (fun v1 f1 f2 => ?_)
  have w1 : v1 77 4 = -1 := by rw [f1.2 4 (by omega)]; exact hw
  refine c_M_isDigit ?_
  have e0 : isDg (pC X p) = pDi X (pS X p) := isDg_at
  rw [e0]
  by_cases hd : pDi X (pS X p) = true
  rotate_left
  · have eR : pNm X 2 p = .error (pS X p) := if_neg hd
    rw [if_neg hd]
    refine ⟨fun q1 => ⟨by first | decide | omega | contradiction | exact absurd trivial (by assumption), ?_⟩, fun q2 => ⟨by first | decide | omega | contradiction | exact absurd trivial (by assumption), ?_⟩⟩
    try (any_goals (exfalso; first | omega | exact absurd trivial (by assumption)))
    refine c_M_bad w1 ?_
    exact Ke (pS X p) _ _ (Or.inl eR) (F7_tr (F7_A f1) (F7_up (by omega))) (zup_s.trans f2) (by omega) (by rw [zup_j (by omega)]; omega)
  have hd' := pDi_iff.mp hd
  have eR1 : pNm X 2 p = pDg X 1 (pS X p + 1) (0 * 10 + X.1 (pS X p) - 48) := by
    unfold pNm
    rw [if_pos hd]
    exact if_pos hd
  rw [if_pos hd]
  refine ⟨fun q1 => ⟨by first | decide | omega | contradiction | exact absurd trivial (by assumption), ?_⟩, fun q2 => ⟨by first | decide | omega | contradiction | exact absurd trivial (by assumption), ?_⟩⟩
  try (any_goals (exfalso; first | omega | exact absurd trivial (by assumption)))
  refine c_M_here ht (TM_A f1 hX) f2 (by omega) ?_
  rw [if_pos hd'.1]
  generalize hx0 : X.1 (pS X p) = x0 at hd' eR1 ⊢
  show _
  simp only [f2]
  refine ⟨⟨by first | decide | omega | contradiction | exact absurd trivial (by assumption), by first | decide | omega | contradiction | exact absurd trivial (by assumption)⟩, by first | decide | omega | contradiction | exact absurd trivial (by assumption), ⟨by first | decide | omega | contradiction | exact absurd trivial (by assumption), by first | decide | omega | contradiction | exact absurd trivial (by assumption)⟩, by first | decide | omega | contradiction | exact absurd trivial (by assumption), by first | decide | omega | contradiction | exact absurd trivial (by assumption), ?_⟩
  try (any_goals (exfalso; first | omega | exact absurd trivial (by assumption)))
  refine c_M_here (p := pS X p + 1) ht (TM_A FA_up (TM_A f1 hX)) zup_s (by omega) ?_
  refine c_M_isDigit ?_
  rw [isDg_at]
  by_cases hd2 : pDi X (pS X p + 1) = true
  rotate_left
  · have eR : pNm X 2 p = .ok (pS X p + 1, 0 * 10 + x0 - 48) := eR1.trans (if_neg hd2)
    rw [if_neg hd2]
    refine ⟨fun q1 => ⟨by first | decide | omega | contradiction | exact absurd trivial (by assumption), ?_⟩, fun q2 => ⟨⟨by first | decide | omega | contradiction | exact absurd trivial (by assumption), by first | decide | omega | contradiction | exact absurd trivial (by assumption)⟩, by first | decide | omega | contradiction | exact absurd trivial (by assumption), ?_⟩⟩
    try (any_goals (exfalso; first | omega | exact absurd trivial (by assumption)))
    refine c_M_here (p := pS X p + 1) ht (TM_A FA_up (TM_A f1 hX)) zup_s (by omega) ?_
    refine c_M_isDigit ?_
    rw [isDg_at, if_neg hd2]
    refine ⟨fun q1 => ?_, fun q2 => ⟨by first | decide | omega | contradiction | exact absurd trivial (by assumption), ?_⟩⟩
    try (any_goals (exfalso; first | omega | exact absurd trivial (by assumption)))
    refine c_M_in ?_
    by_cases hr : lo ≤ x0 - 48 ∧ x0 - 48 ≤ hi
    · rw [if_pos hr]
      refine ⟨fun q1 => ?_, fun q2 => ⟨by first | decide | omega | contradiction | exact absurd trivial (by assumption), ⟨by first | decide | omega | contradiction | exact absurd trivial (by assumption), by first | decide | omega | contradiction | exact absurd trivial (by assumption)⟩, by first | decide | omega | contradiction | exact absurd trivial (by assumption), by first | decide | omega | contradiction | exact absurd trivial (by assumption), ?_⟩⟩
      try (any_goals (exfalso; first | omega | exact absurd trivial (by assumption)))
      exact zQe (Ko _ _ _ eR (by omega) (by omega) (FA_tr f1 FA_up) zup_s) (by omega)
    · rw [if_neg hr]
      show _
      simp (disch := omega) only [zup_s]
      refine ⟨fun q1 => ?_, fun q2 => ⟨by first | decide | omega | contradiction | exact absurd trivial (by assumption), ⟨by first | decide | omega | contradiction | exact absurd trivial (by assumption), by first | decide | omega | contradiction | exact absurd trivial (by assumption)⟩, by first | decide | omega | contradiction | exact absurd trivial (by assumption), by first | decide | omega | contradiction | exact absurd trivial (by assumption), ?_⟩⟩
      try (any_goals (exfalso; first | omega | exact absurd trivial (by assumption)))
      refine c_M_bad (by rw [zup_j (by omega), zup_j (by omega)]; exact w1) ?_
      exact Ke (pS X p + 1 - 1) _ _ (Or.inr ⟨_, _, eR, by omega, rfl⟩) (F7_tr (F7_A f1) (F7_tr (F7_up (by omega)) (F7_tr (F7_up (by omega)) (F7_up (by omega))))) (by rw [zup_s, zup_s]) (by omega) (by rw [zup_j (by omega), zup_s]; omega)
  have hd2' := pDi_iff.mp hd2
  have eR2 : pNm X 2 p = pDg X 0 (pS X p + 1 + 1) ((0 * 10 + x0 - 48) * 10 + X.1 (pS X p + 1) - 48) := eR1.trans (if_pos hd2)
  rw [if_pos hd2]
  refine ⟨fun q1 => ⟨by first | decide | omega | contradiction | exact absurd trivial (by assumption), ?_⟩, fun q2 => ⟨⟨by first | decide | omega | contradiction | exact absurd trivial (by assumption), by first | decide | omega | contradiction | exact absurd trivial (by assumption)⟩, by first | decide | omega | contradiction | exact absurd trivial (by assumption), ?_⟩⟩
  try (any_goals (exfalso; first | omega | exact absurd trivial (by assumption)))
  refine c_M_here (p := pS X p + 1) ht (TM_A FA_up (TM_A f1 hX)) zup_s (by omega) ?_
  rw [if_pos hd2'.1]
  generalize hx1 : X.1 (pS X p + 1) = x1 at hd2' eR2 ⊢
  show _
  simp only [zup_s]
  refine ⟨⟨by first | decide | omega | contradiction | exact absurd trivial (by assumption), by first | decide | omega | contradiction | exact absurd trivial (by assumption)⟩, ⟨by first | decide | omega | contradiction | exact absurd trivial (by assumption), by first | decide | omega | contradiction | exact absurd trivial (by assumption)⟩, by first | decide | omega | contradiction | exact absurd trivial (by assumption), ⟨by first | decide | omega | contradiction | exact absurd trivial (by assumption), by first | decide | omega | contradiction | exact absurd trivial (by assumption)⟩, by first | decide | omega | contradiction | exact absurd trivial (by assumption), by first | decide | omega | contradiction | exact absurd trivial (by assumption), ?_⟩
  try (any_goals (exfalso; first | omega | exact absurd trivial (by assumption)))
  refine c_M_here (p := pS X p + 1 + 1) ht (TM_A FA_up (TM_A FA_up (TM_A f1 hX))) zup_s (by omega) ?_
  refine c_M_isDigit ?_
  rw [isDg_at]
  have w3 : ∀ x y : Int, (zupd (zupd v1 77 3 x) 77 3 y) 77 4 = -1 := fun x y => by rw [zup_j (by omega), zup_j (by omega)]; exact w1
  by_cases hd3 : pDi X (pS X p + 1 + 1) = true
  · have eR : pNm X 2 p = .error (pS X p + 1 + 1) := eR2.trans (if_pos hd3)
    rw [if_pos hd3]
    refine ⟨fun q1 => ?_, fun q2 => ⟨by first | decide | omega | contradiction | exact absurd trivial (by assumption), ?_⟩⟩
    try (any_goals (exfalso; first | omega | exact absurd trivial (by assumption)))
    refine c_M_bad (w3 _ _) ?_
    exact Ke (pS X p + 1 + 1) _ _ (Or.inl eR) (F7_tr (F7_A f1) (F7_tr (F7_up (by omega)) (F7_tr (F7_up (by omega)) (F7_up (by omega))))) (by rw [zup_s, zup_s]) (by omega) (by rw [zup_j (by omega), zup_s]; omega)
  · have eR : pNm X 2 p = .ok (pS X p + 1 + 1, (0 * 10 + x0 - 48) * 10 + x1 - 48) := eR2.trans (if_neg hd3)
    rw [if_neg hd3]
    refine ⟨fun q1 => ?_, fun q2 => ⟨by first | decide | omega | contradiction | exact absurd trivial (by assumption), ?_⟩⟩
    try (any_goals (exfalso; first | omega | exact absurd trivial (by assumption)))
    refine c_M_in ?_
    by_cases hr : lo ≤ 10 * (x0 - 48) + x1 - 48 ∧ 10 * (x0 - 48) + x1 - 48 ≤ hi
    · rw [if_pos hr]
      refine ⟨fun q1 => ?_, fun q2 => ⟨by first | decide | omega | contradiction | exact absurd trivial (by assumption), ⟨by first | decide | omega | contradiction | exact absurd trivial (by assumption), by first | decide | omega | contradiction | exact absurd trivial (by assumption)⟩, by first | decide | omega | contradiction | exact absurd trivial (by assumption), by first | decide | omega | contradiction | exact absurd trivial (by assumption), ?_⟩⟩
      try (any_goals (exfalso; first | omega | exact absurd trivial (by assumption)))
      exact zQe (Ko _ _ _ eR (by omega) (by omega) (FA_tr f1 (FA_tr FA_up FA_up)) zup_s) (by omega)
    · rw [if_neg hr]
      show _
      simp (disch := omega) only [zup_s]
      refine ⟨fun q1 => ?_, fun q2 => ⟨by first | decide | omega | contradiction | exact absurd trivial (by assumption), ⟨by first | decide | omega | contradiction | exact absurd trivial (by assumption), by first | decide | omega | contradiction | exact absurd trivial (by assumption)⟩, by first | decide | omega | contradiction | exact absurd trivial (by assumption), by first | decide | omega | contradiction | exact absurd trivial (by assumption), ?_⟩⟩
      try (any_goals (exfalso; first | omega | exact absurd trivial (by assumption)))
      refine c_M_bad (by rw [zup_j (by omega)]; exact w3 _ _) ?_
      exact Ke (pS X p + 1 + 1 - 1) _ _ (Or.inr ⟨_, _, eR, by omega, rfl⟩) (F7_tr (F7_A f1) (F7_tr (F7_up (by omega)) (F7_tr (F7_up (by omega)) (F7_tr (F7_up (by omega)) (F7_up (by omega)))))) (by rw [zup_s, zup_s]) (by omega) (by rw [zup_j (by omega), zup_s]; omega)
theorem itm_22 {X : zTp} {κ a j0 T : Int} {v0 : zH} {R : zPx (Int → Int)} {QX : Nat → zH → Prop} (ht : tOk X) (hκ : κ = 0 ∨ κ = 1 ∨ κ = 2) (ha : 88 ≤ a ∧ a ≤ 90) (hzc : zCL a = 20) (hzl : ∃ L : Int, zLN a = L ∧ T ≤ L ∧ L ≤ 15) (hj : 0 ≤ j0 ∧ j0 + kN κ = T)
    (Ke : ∀ (e : Int) (v' : zH), R = .error e → FI a v0 v' → ErS X v' e → Q 0 v')
    (Ko : ∀ (q : Int) (g : Int → Int) (v' : zH), R = .ok (q, g) → FI a v0 v' → v' 77 3 = q → v' 77 4 = -1 → KPm v' a T g → Q 0 v') :
    ∀ (f : Nat) {v : zH} {q seen : Int} {g : Int → Int}, TM v X → FI a v0 v → v 77 3 = pS X q → v 77 4 = -1 → KPm v a T g → 0 ≤ q → q ≤ X.2 → X.2 - q < f → R = pIts X κ j0 f q seen g → zJ l G 1 (d + 4) h_M_items k_M_items 115 Q QX 22 [(2, 77), (0, kCh κ), (2, a), (0, j0), (3, 0), (0, seen), (0, kIt κ (pC X q))] [] v 115
  | 0, v, q, seen, g, hX, hF, h3, hw, hk, h0, h1, hf, hR => by omega
  | f + 1, v, q, seen, g, hX, hF, h3, hw, hk, h0, h1, hf, hR => by
    have hn := ht.1
    have hb := pS_b (X := X) q
    have hki := kIt_b (κ := κ) (c := pC X q)
    have hcn := pC_nn (p := q) ht h0
    obtain ⟨L, hzl, hTL, hL15⟩ := hzl
    unfold pIts at hR
    by_cases hk1 : kIt κ (pC X q) = -1
    · rw [if_pos hk1] at hR
      have fin := Ko _ _ v hR hF h3 hw hk
      rw [hk1]
      refine zgo ck_M_items 300 22 _ _ _ _ rfl (sg_M_items_22 ?_)
      try simp (disch := omega) only [zup_e, zup_ak, zup_j, Int.zero_add, Int.reduceAdd, mz78, mz79, mz80, mz81, mz82, mz83, mz84, mz85, mz86, mz87, mz88, mz89, mz90, mz91, mz92, mz93, mz94, mz95, mz96, mz97, mz98, mz99, mz100, mz101, mz102, mz103, mz104, mz105, mz106, mz107, mz108, mz109, mz110, mz111, mz112, mz113, hzc]
      refine ⟨by first | decide | omega | contradiction | exact absurd trivial (by assumption), ⟨fun q1 => ?_, fun q2 => ⟨fun q3 => ?_, fun q4 => ?_⟩⟩⟩
      try (any_goals (exfalso; first | omega | exact absurd trivial (by assumption)))
      exact fin
    rw [if_neg hk1] at hR
    have hlt : pS X q < X.2 := pC_lt (by
      rcases hcn with e | e
      · rw [e, kIt_m1] at hk1
        exact absurd rfl hk1
      · omega)
    by_cases hs : sBt seen (kIt κ (pC X q)) = true
    · rw [if_pos (sBt_iff.mp hs)] at hR
      have fin := Ke _ v hR hF (Or.inr ⟨hw, h3, pS_i, by omega, by rw [pC_i]; intro e; rw [e, kIt_59] at hk1; exact hk1 rfl, by rw [pC_i]; intro e; rw [e, kIt_m1] at hk1; exact hk1 rfl⟩)
      generalize kIt κ (pC X q) = I at hk1 hs ⊢
      refine zgo ck_M_items 300 22 _ _ _ _ rfl (sg_M_items_22 ?_)
      try simp (disch := omega) only [zup_e, zup_ak, zup_j, Int.zero_add, Int.reduceAdd, mz78, mz79, mz80, mz81, mz82, mz83, mz84, mz85, mz86, mz87, mz88, mz89, mz90, mz91, mz92, mz93, mz94, mz95, mz96, mz97, mz98, mz99, mz100, mz101, mz102, mz103, mz104, mz105, mz106, mz107, mz108, mz109, mz110, mz111, mz112, mz113, hzc]
      refine ⟨by first | decide | omega | contradiction | exact absurd trivial (by assumption), ⟨fun q1 => ?_, fun q2 => ⟨fun q3 => ?_, fun q4 => ?_⟩⟩⟩
      try (any_goals (exfalso; first | omega | exact absurd trivial (by assumption)))
      refine c_M_has ?_
      rw [if_pos hs]
      refine ⟨fun q1 => ?_, fun q2 => ⟨by first | decide | omega | contradiction | exact absurd trivial (by assumption), ⟨by first | decide | omega | contradiction | exact absurd trivial (by assumption), by first | decide | omega | contradiction | exact absurd trivial (by assumption)⟩, by first | decide | omega | contradiction | exact absurd trivial (by assumption), ⟨by first | decide | omega | contradiction | exact absurd trivial (by assumption), by first | decide | omega | contradiction | exact absurd trivial (by assumption)⟩, ⟨fun q3 => ?_, fun q4 => ⟨fun q5 => ?_, fun q6 => ?_⟩⟩⟩⟩
      try (any_goals (exfalso; first | omega | exact absurd trivial (by assumption)))
      exact fin
    rw [if_neg (fun e => hs (sBt_iff.mpr e))] at hR
    have hki := hki.resolve_left hk1
    have kh := kHi_b (κ := κ) (k := kIt κ (pC X q))
    have hkl : kLo κ (kIt κ (pC X q)) = if κ = 0 ∧ kIt κ (pC X q) = 1 then 1 else 0 := rfl
    generalize kIt κ (pC X q) = I at hk1 hs hR hki kh hkl ⊢
    have h77 : a ≠ 77 := by omega
    have fR : FI a v0 (zupd v 77 3 (pS X q + 1)) := FI_tr hF (FI_7 (F7_up (by omega)))
    have XR : TM (zupd v 77 3 (pS X q + 1)) X := TM_A FA_up hX
    have kR : KPm (zupd v 77 3 (pS X q + 1)) a T g := fun j j1 j2 => by rw [zup_ak h77]; exact hk j j1 j2
    have wR : (zupd v 77 3 (pS X q + 1)) 77 4 = -1 := by rw [zup_j (by omega)]; exact hw
    have exE : ∀ (e x : Int) (v1 : zH), (pNm X 2 (pS X q + 1) = .error e ∨ ∃ r y : Int, pNm X 2 (pS X q + 1) = .ok (r, y) ∧ ¬ (kLo κ I ≤ y ∧ y ≤ kHi κ I) ∧ e = r - 1) → F7 (zupd v 77 3 (pS X q + 1)) v1 → v1 77 4 = e → 0 ≤ e → (0 ≤ v1 77 3 ∧ v1 77 3 ≤ X.2) → Q 0 (zupd v1 a (j0 + I) x) := fun e x v1 h f1 f2 f3 f4 => by
      have hR' : R = .error e := by
        rcases h with h | ⟨r, y, h, h2, h3⟩
        · rw [h] at hR
          exact hR
        · rw [h] at hR
          simp only [if_neg h2] at hR
          rw [h3]
          exact hR
      exact Ke e _ hR' (FI_tr fR (FI_tr (FI_7 f1) (FI_up h77))) (Or.inl ⟨⟨by rw [zup_ak (Ne.symm h77)]; exact f2, f3⟩, by rw [zup_ak (Ne.symm h77)]; exact f4⟩)
    have exK : ∀ (r x : Int) (v1 v2 : zH), pNm X 2 (pS X q + 1) = .ok (r, x) → kLo κ I ≤ x → x ≤ kHi κ I → FA (zupd v 77 3 (pS X q + 1)) v1 → FA (zupd v1 a (j0 + I) x) v2 → v2 77 3 = pS X r → zJ l G 1 (d + 4) h_M_items k_M_items 115 Q QX 22 [(2, 77), (0, kCh κ), (2, a), (0, j0), (3, 0), (0, zor seen (zshl 1 I)), (0, kIt κ (pC X r))] [] v2 115 := fun r x v1 v2 h l1 l2 f1 f2 f3 => by
      have hx := (pNm_b (X := X) (m := 2) (p := pS X q + 1) (by omega) (by omega)).2 r x h
      rw [h] at hR
      simp only [if_pos (show kLo κ I ≤ x ∧ x ≤ kHi κ I from ⟨l1, l2⟩)] at hR
      refine itm_22 ht hκ ha hzc ⟨L, hzl, hTL, hL15⟩ hj Ke Ko f (TM_A f2 (TM_I (FI_up h77) (by omega) (TM_A f1 XR))) (FI_tr fR (FI_tr (FI_7 (F7_A f1)) (FI_tr (FI_up h77) (FI_7 (F7_A f2))))) f3 ?_ (fun j j1 j2 => ?_) (by omega) (by omega) (by omega) hR
      · rw [f2.2 4 (by omega), zup_ak (Ne.symm h77), f1.2 4 (by omega)]
        exact wR
      · rw [f2.1 a h77]
        show _ = upf g (j0 + I) x j
        by_cases e : j = j0 + I
        · rw [e, zup_s, upf_s]
        · rw [zup_j e, upf_n e, f1.1 a h77]
          exact kR j j1 j2
    have hrb : ∀ r x : Int, pNm X 2 (pS X q + 1) = .ok (r, x) → 0 ≤ r ∧ r ≤ X.2 := fun r x h => by
      have hx := (pNm_b (X := X) (m := 2) (p := pS X q + 1) (by omega) (by omega)).2 r x h
      omega
    by_cases hκ0 : κ = 0
    · have eC : kCh κ = 115 := by rw [hκ0]; rfl
      by_cases hI1 : I = 1
      · have hlo : kLo κ I = 1 := by rw [hkl, if_pos ⟨hκ0, hI1⟩]
        refine zgo ck_M_items 300 22 _ _ _ _ rfl (sg_M_items_22 ?_)
        try simp (disch := omega) only [zup_e, zup_ak, zup_j, Int.zero_add, Int.reduceAdd, mz78, mz79, mz80, mz81, mz82, mz83, mz84, mz85, mz86, mz87, mz88, mz89, mz90, mz91, mz92, mz93, mz94, mz95, mz96, mz97, mz98, mz99, mz100, mz101, mz102, mz103, mz104, mz105, mz106, mz107, mz108, mz109, mz110, mz111, mz112, mz113, hzc, hzl, h3]
        refine ⟨by first | decide | omega | contradiction | exact absurd trivial (by assumption), ⟨fun q1 => ?_, fun q2 => ⟨fun q3 => ?_, fun q4 => ?_⟩⟩⟩
        try (any_goals (exfalso; first | omega | exact absurd trivial (by assumption)))
        refine c_M_has ?_
        rw [if_neg hs]
        show _
        simp only [h3]
        refine ⟨fun q1 => ?_, fun q2 => ⟨by first | decide | omega | contradiction | exact absurd trivial (by assumption), ⟨by first | decide | omega | contradiction | exact absurd trivial (by assumption), by first | decide | omega | contradiction | exact absurd trivial (by assumption)⟩, by first | decide | omega | contradiction | exact absurd trivial (by assumption), ⟨by first | decide | omega | contradiction | exact absurd trivial (by assumption), by first | decide | omega | contradiction | exact absurd trivial (by assumption)⟩, ⟨fun q3 => ?_, fun q4 => ⟨fun q5 => ?_, fun q6 => ?_⟩⟩⟩⟩
        try (any_goals (exfalso; first | omega | exact absurd trivial (by assumption)))
        refine c_M_highest hκ ?_
        refine ⟨by first | decide | omega | contradiction | exact absurd trivial (by assumption), ?_⟩
        try (any_goals (exfalso; first | omega | exact absurd trivial (by assumption)))
        refine c_M_number (p := pS X q + 1) ht XR zup_s (by omega) (by omega) wR (fun e x v1 n1 n2 n3 n4 n5 => ?_) (fun r x v1 n1 n2 n2' n3 n4 => ?_)
        · have fin := exE e x v1 (by rw [hlo]; exact n1) n2 n3 n4 n5
          have e4 : (zupd v1 a (j0 + I) x) 77 4 = e := by rw [zup_ak (Ne.symm h77)]; exact n3
          have e5 : v1 77 4 = e := n3
          show _
          simp only [e5]
          refine ⟨by first | decide | omega | contradiction | exact absurd trivial (by assumption), ⟨by first | decide | omega | contradiction | exact absurd trivial (by assumption), by first | decide | omega | contradiction | exact absurd trivial (by assumption)⟩, by first | decide | omega | contradiction | exact absurd trivial (by assumption), ⟨fun q1 => ?_, fun q2 => ⟨by first | decide | omega | contradiction | exact absurd trivial (by assumption), ?_⟩⟩⟩
          try (any_goals (exfalso; first | omega | exact absurd trivial (by assumption)))
          refine zgo ck_M_items 300 22 _ _ _ _ rfl (sg_M_items_22 ?_)
          try simp (disch := omega) only [zup_e, zup_ak, zup_j, Int.zero_add, Int.reduceAdd, mz78, mz79, mz80, mz81, mz82, mz83, mz84, mz85, mz86, mz87, mz88, mz89, mz90, mz91, mz92, mz93, mz94, mz95, mz96, mz97, mz98, mz99, mz100, mz101, mz102, mz103, mz104, mz105, mz106, mz107, mz108, mz109, mz110, mz111, mz112, mz113, hzc]
          refine ⟨by first | decide | omega | contradiction | exact absurd trivial (by assumption), ⟨fun q1 => ?_, fun q2 => ⟨fun q3 => ?_, fun q4 => ?_⟩⟩⟩
          try (any_goals (exfalso; first | omega | exact absurd trivial (by assumption)))
          exact fin
        · have hr := hrb r x n1
          have e5 : v1 77 4 = -1 := by rw [n3.2 4 (by omega)]; exact wR
          have e4 : (zupd v1 a (j0 + I) x) 77 4 = -1 := by rw [zup_ak (Ne.symm h77), n3.2 4 (by omega)]; exact wR
          show _
          simp only [e5]
          refine ⟨by first | decide | omega | contradiction | exact absurd trivial (by assumption), ⟨by first | decide | omega | contradiction | exact absurd trivial (by assumption), by first | decide | omega | contradiction | exact absurd trivial (by assumption)⟩, by first | decide | omega | contradiction | exact absurd trivial (by assumption), ⟨fun q1 => ?_, fun q2 => ⟨by first | decide | omega | contradiction | exact absurd trivial (by assumption), ?_⟩⟩⟩
          try (any_goals (exfalso; first | omega | exact absurd trivial (by assumption)))
          refine c_M_look (p := r) ht (TM_I (FI_up h77) (by omega) (TM_A n3 XR)) (by rw [zup_ak (Ne.symm h77)]; exact n4) (by omega) (by omega) (fun v2 g1 g2 => ?_)
          refine c_M_itemOf hκ ?_
          exact exK r x v1 v2 n1 (by rw [hlo]; exact n2) n2' n3 g1 g2
      · have hlo : kLo κ I = 0 := by rw [hkl, if_neg (fun q => hI1 q.2)]
        refine zgo ck_M_items 300 22 _ _ _ _ rfl (sg_M_items_22 ?_)
        try simp (disch := omega) only [zup_e, zup_ak, zup_j, Int.zero_add, Int.reduceAdd, mz78, mz79, mz80, mz81, mz82, mz83, mz84, mz85, mz86, mz87, mz88, mz89, mz90, mz91, mz92, mz93, mz94, mz95, mz96, mz97, mz98, mz99, mz100, mz101, mz102, mz103, mz104, mz105, mz106, mz107, mz108, mz109, mz110, mz111, mz112, mz113, hzc, hzl, h3]
        refine ⟨by first | decide | omega | contradiction | exact absurd trivial (by assumption), ⟨fun q1 => ?_, fun q2 => ⟨fun q3 => ?_, fun q4 => ?_⟩⟩⟩
        try (any_goals (exfalso; first | omega | exact absurd trivial (by assumption)))
        refine c_M_has ?_
        rw [if_neg hs]
        show _
        simp only [h3]
        refine ⟨fun q1 => ?_, fun q2 => ⟨by first | decide | omega | contradiction | exact absurd trivial (by assumption), ⟨by first | decide | omega | contradiction | exact absurd trivial (by assumption), by first | decide | omega | contradiction | exact absurd trivial (by assumption)⟩, by first | decide | omega | contradiction | exact absurd trivial (by assumption), ⟨by first | decide | omega | contradiction | exact absurd trivial (by assumption), by first | decide | omega | contradiction | exact absurd trivial (by assumption)⟩, ⟨fun q3 => ?_, fun q4 => ⟨fun q5 => ?_, fun q6 => ?_⟩⟩⟩⟩
        try (any_goals (exfalso; first | omega | exact absurd trivial (by assumption)))
        refine c_M_highest hκ ?_
        refine ⟨by first | decide | omega | contradiction | exact absurd trivial (by assumption), ?_⟩
        try (any_goals (exfalso; first | omega | exact absurd trivial (by assumption)))
        refine c_M_number (p := pS X q + 1) ht XR zup_s (by omega) (by omega) wR (fun e x v1 n1 n2 n3 n4 n5 => ?_) (fun r x v1 n1 n2 n2' n3 n4 => ?_)
        · have fin := exE e x v1 (by rw [hlo]; exact n1) n2 n3 n4 n5
          have e4 : (zupd v1 a (j0 + I) x) 77 4 = e := by rw [zup_ak (Ne.symm h77)]; exact n3
          have e5 : v1 77 4 = e := n3
          show _
          simp only [e5]
          refine ⟨by first | decide | omega | contradiction | exact absurd trivial (by assumption), ⟨by first | decide | omega | contradiction | exact absurd trivial (by assumption), by first | decide | omega | contradiction | exact absurd trivial (by assumption)⟩, by first | decide | omega | contradiction | exact absurd trivial (by assumption), ⟨fun q1 => ?_, fun q2 => ⟨by first | decide | omega | contradiction | exact absurd trivial (by assumption), ?_⟩⟩⟩
          try (any_goals (exfalso; first | omega | exact absurd trivial (by assumption)))
          refine zgo ck_M_items 300 22 _ _ _ _ rfl (sg_M_items_22 ?_)
          try simp (disch := omega) only [zup_e, zup_ak, zup_j, Int.zero_add, Int.reduceAdd, mz78, mz79, mz80, mz81, mz82, mz83, mz84, mz85, mz86, mz87, mz88, mz89, mz90, mz91, mz92, mz93, mz94, mz95, mz96, mz97, mz98, mz99, mz100, mz101, mz102, mz103, mz104, mz105, mz106, mz107, mz108, mz109, mz110, mz111, mz112, mz113, hzc]
          refine ⟨by first | decide | omega | contradiction | exact absurd trivial (by assumption), ⟨fun q1 => ?_, fun q2 => ⟨fun q3 => ?_, fun q4 => ?_⟩⟩⟩
          try (any_goals (exfalso; first | omega | exact absurd trivial (by assumption)))
          exact fin
        · have hr := hrb r x n1
          have e5 : v1 77 4 = -1 := by rw [n3.2 4 (by omega)]; exact wR
          have e4 : (zupd v1 a (j0 + I) x) 77 4 = -1 := by rw [zup_ak (Ne.symm h77), n3.2 4 (by omega)]; exact wR
          show _
          simp only [e5]
          refine ⟨by first | decide | omega | contradiction | exact absurd trivial (by assumption), ⟨by first | decide | omega | contradiction | exact absurd trivial (by assumption), by first | decide | omega | contradiction | exact absurd trivial (by assumption)⟩, by first | decide | omega | contradiction | exact absurd trivial (by assumption), ⟨fun q1 => ?_, fun q2 => ⟨by first | decide | omega | contradiction | exact absurd trivial (by assumption), ?_⟩⟩⟩
          try (any_goals (exfalso; first | omega | exact absurd trivial (by assumption)))
          refine c_M_look (p := r) ht (TM_I (FI_up h77) (by omega) (TM_A n3 XR)) (by rw [zup_ak (Ne.symm h77)]; exact n4) (by omega) (by omega) (fun v2 g1 g2 => ?_)
          refine c_M_itemOf hκ ?_
          exact exK r x v1 v2 n1 (by rw [hlo]; exact n2) n2' n3 g1 g2
    · have eC : kCh κ ≠ 115 := by unfold kCh; rw [if_neg hκ0]; split <;> omega
      have hlo : kLo κ I = 0 := by rw [hkl, if_neg (fun q => hκ0 q.1)]
      refine zgo ck_M_items 300 22 _ _ _ _ rfl (sg_M_items_22 ?_)
      try simp (disch := omega) only [zup_e, zup_ak, zup_j, Int.zero_add, Int.reduceAdd, mz78, mz79, mz80, mz81, mz82, mz83, mz84, mz85, mz86, mz87, mz88, mz89, mz90, mz91, mz92, mz93, mz94, mz95, mz96, mz97, mz98, mz99, mz100, mz101, mz102, mz103, mz104, mz105, mz106, mz107, mz108, mz109, mz110, mz111, mz112, mz113, hzc, hzl, h3]
      refine ⟨by first | decide | omega | contradiction | exact absurd trivial (by assumption), ⟨fun q1 => ?_, fun q2 => ⟨fun q3 => ?_, fun q4 => ?_⟩⟩⟩
      try (any_goals (exfalso; first | omega | exact absurd trivial (by assumption)))
      refine c_M_has ?_
      rw [if_neg hs]
      show _
      simp only [h3]
      refine ⟨fun q1 => ?_, fun q2 => ⟨by first | decide | omega | contradiction | exact absurd trivial (by assumption), ⟨by first | decide | omega | contradiction | exact absurd trivial (by assumption), by first | decide | omega | contradiction | exact absurd trivial (by assumption)⟩, by first | decide | omega | contradiction | exact absurd trivial (by assumption), ⟨by first | decide | omega | contradiction | exact absurd trivial (by assumption), by first | decide | omega | contradiction | exact absurd trivial (by assumption)⟩, ⟨fun q3 => ?_, fun q4 => ⟨fun q5 => ?_, fun q6 => ?_⟩⟩⟩⟩
      try (any_goals (exfalso; first | omega | exact absurd trivial (by assumption)))
      refine c_M_highest hκ ?_
      refine ⟨by first | decide | omega | contradiction | exact absurd trivial (by assumption), ?_⟩
      try (any_goals (exfalso; first | omega | exact absurd trivial (by assumption)))
      refine c_M_number (p := pS X q + 1) ht XR zup_s (by omega) (by omega) wR (fun e x v1 n1 n2 n3 n4 n5 => ?_) (fun r x v1 n1 n2 n2' n3 n4 => ?_)
      · have fin := exE e x v1 (by rw [hlo]; exact n1) n2 n3 n4 n5
        have e4 : (zupd v1 a (j0 + I) x) 77 4 = e := by rw [zup_ak (Ne.symm h77)]; exact n3
        have e5 : v1 77 4 = e := n3
        show _
        simp only [e5]
        refine ⟨by first | decide | omega | contradiction | exact absurd trivial (by assumption), ⟨by first | decide | omega | contradiction | exact absurd trivial (by assumption), by first | decide | omega | contradiction | exact absurd trivial (by assumption)⟩, by first | decide | omega | contradiction | exact absurd trivial (by assumption), ⟨fun q1 => ?_, fun q2 => ⟨by first | decide | omega | contradiction | exact absurd trivial (by assumption), ?_⟩⟩⟩
        try (any_goals (exfalso; first | omega | exact absurd trivial (by assumption)))
        refine zgo ck_M_items 300 22 _ _ _ _ rfl (sg_M_items_22 ?_)
        try simp (disch := omega) only [zup_e, zup_ak, zup_j, Int.zero_add, Int.reduceAdd, mz78, mz79, mz80, mz81, mz82, mz83, mz84, mz85, mz86, mz87, mz88, mz89, mz90, mz91, mz92, mz93, mz94, mz95, mz96, mz97, mz98, mz99, mz100, mz101, mz102, mz103, mz104, mz105, mz106, mz107, mz108, mz109, mz110, mz111, mz112, mz113, hzc]
        refine ⟨by first | decide | omega | contradiction | exact absurd trivial (by assumption), ⟨fun q1 => ?_, fun q2 => ⟨fun q3 => ?_, fun q4 => ?_⟩⟩⟩
        try (any_goals (exfalso; first | omega | exact absurd trivial (by assumption)))
        exact fin
      · have hr := hrb r x n1
        have e5 : v1 77 4 = -1 := by rw [n3.2 4 (by omega)]; exact wR
        have e4 : (zupd v1 a (j0 + I) x) 77 4 = -1 := by rw [zup_ak (Ne.symm h77), n3.2 4 (by omega)]; exact wR
        show _
        simp only [e5]
        refine ⟨by first | decide | omega | contradiction | exact absurd trivial (by assumption), ⟨by first | decide | omega | contradiction | exact absurd trivial (by assumption), by first | decide | omega | contradiction | exact absurd trivial (by assumption)⟩, by first | decide | omega | contradiction | exact absurd trivial (by assumption), ⟨fun q1 => ?_, fun q2 => ⟨by first | decide | omega | contradiction | exact absurd trivial (by assumption), ?_⟩⟩⟩
        try (any_goals (exfalso; first | omega | exact absurd trivial (by assumption)))
        refine c_M_look (p := r) ht (TM_I (FI_up h77) (by omega) (TM_A n3 XR)) (by rw [zup_ak (Ne.symm h77)]; exact n4) (by omega) (by omega) (fun v2 g1 g2 => ?_)
        refine c_M_itemOf hκ ?_
        exact exK r x v1 v2 n1 (by rw [hlo]; exact n2) n2' n3 g1 g2
end
