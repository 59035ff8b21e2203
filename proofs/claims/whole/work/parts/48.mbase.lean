/-! THE REFERENCE: small methods, signs, tokens -/
theorem mz78 : zLN 78 = 160 := by decide
theorem mz79 : zLN 79 = 1700 := by decide
theorem mz80 : zLN 80 = 1700 := by decide
theorem mz81 : zLN 81 = 5 := by decide
theorem mz82 : zLN 82 = 5 := by decide
theorem mz83 : zLN 83 = 450 := by decide
theorem mz84 : zLN 84 = 450 := by decide
theorem mz85 : zLN 85 = 450 := by decide
theorem mz86 : zLN 86 = 5 := by decide
theorem mz87 : zLN 87 = 80 := by decide
theorem mz88 : zLN 88 = 12 := by decide
theorem mz89 : zLN 89 = 15 := by decide
theorem mz90 : zLN 90 = 10 := by decide
theorem mz91 : zLN 91 = 36 := by decide
theorem mz92 : zLN 92 = 4 := by decide
theorem mz93 : zLN 93 = 12 := by decide
theorem mz94 : zLN 94 = 15 := by decide
theorem mz95 : zLN 95 = 10 := by decide
theorem mz96 : zLN 96 = 36 := by decide
theorem mz97 : zLN 97 = 36 := by decide
theorem mz98 : zLN 98 = 36 := by decide
theorem mz99 : zLN 99 = 36 := by decide
theorem mz100 : zLN 100 = 36 := by decide
theorem mz101 : zLN 101 = 36 := by decide
theorem mz102 : zLN 102 = 2160 := by decide
theorem mz103 : zLN 103 = 36 := by decide
theorem mz104 : zLN 104 = 36 := by decide
theorem mz105 : zLN 105 = 36 := by decide
theorem mz106 : zLN 106 = 36 := by decide
theorem mz107 : zLN 107 = 20 := by decide
theorem mz108 : zLN 108 = 20 := by decide
theorem mz109 : zLN 109 = 20 := by decide
theorem mz110 : zLN 110 = 3600 := by decide
theorem mz111 : zLN 111 = 36 := by decide
theorem mz112 : zLN 112 = 756 := by decide
theorem mz113 : zLN 113 = 36 := by decide
def TM (v : zH) (X : zTp) : Prop := v 77 2 = X.2 ∧ ∀ j : Int, 0 ≤ j → j < X.2 → v 78 j = X.1 j
theorem TM_fr {v v' : zH} {X : zTp} (h0 : v' 77 2 = v 77 2) (h1 : v' 78 = v 78) (k : TM v X) : TM v' X := by
  unfold TM
  rw [h0, h1]
  exact k
/-- the reading place alone changes -/
def FA (v v' : zH) : Prop := (∀ b : Int, b ≠ 77 → v' b = v b) ∧ ∀ k : Int, k ≠ 3 → v' 77 k = v 77 k
theorem FA_rf {v : zH} : FA v v := ⟨fun _ _ => rfl, fun _ _ => rfl⟩
theorem FA_tr {u v w : zH} (h : FA u v) (g : FA v w) : FA u w := ⟨fun b q => (g.1 b q).trans (h.1 b q), fun k q => (g.2 k q).trans (h.2 k q)⟩
theorem FA_up {v : zH} {x : Int} : FA v (zupd v 77 3 x) := ⟨fun b q => zup_a q, fun k q => zup_j q⟩
/-- place, fault and depth alone change -/
def F7 (v v' : zH) : Prop := (∀ b : Int, b ≠ 77 → v' b = v b) ∧ ∀ k : Int, k ≠ 3 → k ≠ 4 → k ≠ 5 → v' 77 k = v 77 k
theorem F7_rf {v : zH} : F7 v v := ⟨fun _ _ => rfl, fun _ _ _ _ => rfl⟩
theorem F7_tr {u v w : zH} (h : F7 u v) (g : F7 v w) : F7 u w := ⟨fun b q => (g.1 b q).trans (h.1 b q), fun k q r s => (g.2 k q r s).trans (h.2 k q r s)⟩
theorem F7_A {v v' : zH} (h : FA v v') : F7 v v' := ⟨h.1, fun k q _ _ => h.2 k q⟩
theorem F7_up {v : zH} {k x : Int} (hk : k = 3 ∨ k = 4 ∨ k = 5) : F7 v (zupd v 77 k x) := ⟨fun b q => zup_a q, fun j q r s => zup_j (by omega)⟩
theorem TM_7 {v v' : zH} {X : zTp} (h : F7 v v') (k : TM v X) : TM v' X := TM_fr (h.2 2 (by omega) (by omega) (by omega)) (h.1 78 (by omega)) k
theorem TM_A {v v' : zH} {X : zTp} (h : FA v v') (k : TM v X) : TM v' X := TM_7 (F7_A h) k
-- tokens as the reference keeps them
def lIx (c : Int) : Int := if c = 104 then 0 else if c = 114 then 1 else if c = 99 then 2 else if c = 100 then 3 else if c = 115 then 4 else -1
def mC (t : Int) : Int := if 0 ≤ t then 0 else if isLet (-t) then 1 else if t = -43 then 2 else if t = -45 then 3 else if t = -42 then 4 else if t = -47 then 5 else if t = -61 then 6 else if t = -60 then 7 else if t = -62 then 8 else if t = -33 then 9 else if t = -38 then 10 else 11
def mV (t : Int) : Int := if 0 ≤ t then t else if isLet (-t) then lIx (-t) else 0
def MR (v : zH) (b : Int) : List Int → Prop
  | [] => True
  | t :: ts => v 79 b = mC t ∧ v 80 b = mV t ∧ MR v (b + 1) ts
theorem MR_app {v : zH} : ∀ (s t : List Int) (b : Int), MR v b (s ++ t) ↔ MR v b s ∧ MR v (b + s.length) t
  | [], t, b => by simp [MR]
  | y :: s, t, b => by
    show (v 79 b = mC y ∧ v 80 b = mV y ∧ MR v (b + 1) (s ++ t)) ↔ ((v 79 b = mC y ∧ v 80 b = mV y ∧ MR v (b + 1) s) ∧ _)
    have e : b + 1 + (s.length : Int) = b + ((y :: s).length : Int) := by simp; omega
    rw [MR_app s t (b + 1), e, and_assoc, and_assoc]
theorem MR_fr {v v' : zH} : ∀ (s : List Int) (b : Int), (∀ j : Int, b ≤ j → j < b + s.length → v' 79 j = v 79 j ∧ v' 80 j = v 80 j) → MR v b s → MR v' b s
  | [], _, _, _ => trivial
  | y :: s, b, h, ⟨h1, h2, h3⟩ => by
    simp only [List.length_cons] at h
    have := h b (by omega) (by omega)
    exact ⟨by rw [this.1]; exact h1, by rw [this.2]; exact h2, MR_fr s (b + 1) (fun j j1 j2 => h j (by omega) (by omega)) h3⟩
/-- what reading a law may change, from token m of text n on -/
def FM (n m : Int) (v v' : zH) : Prop := (∀ b : Int, b ≠ 77 → b ≠ 79 → b ≠ 80 → b ≠ 81 → v' b = v b) ∧ (∀ k : Int, k ≠ 3 → k ≠ 4 → k ≠ 5 → v' 77 k = v 77 k) ∧ (∀ j : Int, j ≠ n → v' 81 j = v 81 j) ∧ (∀ j : Int, ¬ (340 * n + m ≤ j ∧ j < 340 * n + 340) → v' 79 j = v 79 j ∧ v' 80 j = v 80 j)
theorem FM_rf {n m : Int} {v : zH} : FM n m v v := ⟨fun _ _ _ _ _ => rfl, fun _ _ _ _ => rfl, fun _ _ => rfl, fun _ _ => ⟨rfl, rfl⟩⟩
theorem FM_tr {n m m' : Int} {u v w : zH} (h : FM n m u v) (g : FM n m' v w) (hm : m ≤ m') : FM n m u w :=
  ⟨fun b a1 a2 a3 a4 => (g.1 b a1 a2 a3 a4).trans (h.1 b a1 a2 a3 a4), fun k a1 a2 a3 => (g.2.1 k a1 a2 a3).trans (h.2.1 k a1 a2 a3), fun j a => (g.2.2.1 j a).trans (h.2.2.1 j a), fun j a => ⟨((g.2.2.2 j (by omega)).1).trans (h.2.2.2 j a).1, ((g.2.2.2 j (by omega)).2).trans (h.2.2.2 j a).2⟩⟩
theorem FM_7 {n m : Int} {v v' : zH} (h : F7 v v') : FM n m v v' := ⟨fun b a _ _ _ => h.1 b a, h.2, fun j _ => by rw [h.1 81 (by omega)], fun j _ => by rw [h.1 79 (by omega), h.1 80 (by omega)]; exact ⟨rfl, rfl⟩⟩
theorem TM_M {n m : Int} {v v' : zH} {X : zTp} (h : FM n m v v') (k : TM v X) : TM v' X := TM_fr (h.2.1 2 (by omega) (by omega) (by omega)) (h.1 78 (by omega) (by omega) (by omega) (by omega)) k
section
variable {l : Launch} {G : zG} {d : Nat} {v : zH} {Q : Int → zH → Prop}
theorem c_M_in {x lo hi : Int} (K : Q (if lo ≤ x ∧ x ≤ hi then 1 else 0) v) : zC l G 1 (d + 1) h_M_in [(0, x), (0, lo), (0, hi)] v 115 Q := by
  refine zC_at ok_M_in ck_M_in rfl rfl (sg_M_in_0 ?_)
  refine ⟨fun q1 => ⟨by first | decide | omega, ?_⟩, fun q2 => ⟨fun q3 => ⟨by first | decide | omega, ?_⟩, fun q4 => ⟨by first | decide | omega, ?_⟩⟩⟩
  try (any_goals (exfalso; first | omega | exact absurd trivial (by assumption)))
  · rw [if_neg (by omega)] at K; exact K
  · rw [if_neg (by omega)] at K; exact K
  · rw [if_pos (by omega)] at K; exact K
theorem c_M_has {x k : Int} (K : Q (if sBt x k = true then 1 else 0) v) : zC l G 1 (d + 1) h_M_has [(0, x), (0, k)] v 115 Q := by
  simp only [sBt_iff] at K
  refine zC_at ok_M_has ck_M_has rfl rfl (sg_M_has_0 ?_)
  refine ⟨fun q1 => ⟨by first | decide | omega, ?_⟩, fun q2 => ⟨by first | decide | omega, ?_⟩⟩
  try (any_goals (exfalso; first | omega | exact absurd trivial (by assumption)))
  · rw [if_neg (by assumption)] at K; exact K
  · rw [if_pos (by assumption)] at K; exact K
def isDg (c : Int) : Bool := decide (48 ≤ c) && decide (c ≤ 57)
theorem isDg_iff {c : Int} : isDg c = true ↔ 48 ≤ c ∧ c ≤ 57 := by simp [isDg, Bool.and_eq_true]
theorem c_M_isDigit {c : Int} (K : Q (if isDg c = true then 1 else 0) v) : zC l G 1 (d + 1) h_M_isDigit [(0, c)] v 115 Q := by
  simp only [isDg_iff] at K
  refine zC_at ok_M_isDigit ck_M_isDigit rfl rfl (sg_M_isDigit_0 ?_)
  refine ⟨fun q1 => ⟨by first | decide | omega, ?_⟩, fun q2 => ⟨fun q3 => ⟨by first | decide | omega, ?_⟩, fun q4 => ⟨by first | decide | omega, ?_⟩⟩⟩
  try (any_goals (exfalso; first | omega | exact absurd trivial (by assumption)))
  · rw [if_neg (by omega)] at K; exact K
  · rw [if_neg (by omega)] at K; exact K
  · rw [if_pos (by omega)] at K; exact K
theorem c_M_letterOf {c : Int} (K : Q (lIx c) v) : zC l G 1 (d + 1) h_M_letterOf [(0, c)] v 115 Q := by
  unfold lIx at K
  refine zC_at ok_M_letterOf ck_M_letterOf rfl rfl (sg_M_letterOf_0 ?_)
  refine ⟨fun q1 => ⟨fun q2 => ⟨fun q3 => ⟨fun q4 => ⟨fun q5 => ?_, fun q6 => ?_⟩, fun q7 => ?_⟩, fun q8 => ?_⟩, fun q9 => ?_⟩, fun q10 => ?_⟩
  try (any_goals (exfalso; first | omega | exact absurd trivial (by assumption)))
  all_goals
    simp only [*, if_true, if_false] at K
    exact K
theorem c_M_isSign {x : Int} (K : Q (if isCmp x = true then 1 else 0) v) : zC l G 1 (d + 1) h_M_isSign [(0, x)] v 115 Q := by
  have hc := isCmp_iff (k := x)
  by_cases h : isCmp x = true
  · rw [if_pos h] at K
    rw [hc] at h
    refine zC_at ok_M_isSign ck_M_isSign rfl rfl (sg_M_isSign_0 ?_)
    refine ⟨fun q1 => ⟨by first | decide | omega, ?_⟩, fun q2 => ⟨fun q3 => ⟨by first | decide | omega, ?_⟩, fun q4 => ⟨fun q5 => ⟨by first | decide | omega, ?_⟩, fun q6 => ⟨by first | decide | omega, ?_⟩⟩⟩⟩
    try (any_goals (exfalso; first | omega | exact absurd trivial (by assumption)))
    all_goals exact K
  · rw [if_neg h] at K
    rw [hc] at h
    refine zC_at ok_M_isSign ck_M_isSign rfl rfl (sg_M_isSign_0 ?_)
    refine ⟨fun q1 => ⟨by first | decide | omega, ?_⟩, fun q2 => ⟨fun q3 => ⟨by first | decide | omega, ?_⟩, fun q4 => ⟨fun q5 => ⟨by first | decide | omega, ?_⟩, fun q6 => ⟨by first | decide | omega, ?_⟩⟩⟩⟩
    try (any_goals (exfalso; first | omega | exact absurd trivial (by assumption)))
    exact K
theorem c_M_thrown (K : Q (v 77 0) v) : zC l G 1 (d + 1) h_M_thrown [(2, 77)] v 115 Q := by
  refine zC_at ok_M_thrown ck_M_thrown rfl rfl (sg_M_thrown_0 ?_)
  refine ⟨by first | decide | omega, ?_⟩
  exact K
theorem c_M_here {X : zTp} {p : Int} (ht : tOk X) (hX : TM v X) (hp : v 77 3 = p) (h0 : 0 ≤ p) (K : Q (if p < X.2 then X.1 p else -1) v) : zC l G 1 (d + 1) h_M_here [(2, 77)] v 115 Q := by
  have hn := ht.1
  refine zC_at ok_M_here ck_M_here rfl rfl (sg_M_here_0 ?_)
  try simp (disch := omega) only [zup_e, zup_ak, zup_j, Int.zero_add, Int.reduceAdd, mz78, mz79, mz80, mz81, mz82, mz83, mz84, mz85, mz86, mz87, mz88, mz89, mz90, mz91, mz92, mz93, mz94, mz95, mz96, mz97, mz98, mz99, mz100, mz101, mz102, mz103, mz104, mz105, mz106, mz107, mz108, mz109, mz110, mz111, mz112, mz113, hX.1, hp]
  refine ⟨by first | decide | omega, by first | decide | omega, ⟨fun q1 => ?_, fun q2 => ⟨by first | decide | omega, by first | decide | omega, by first | decide | omega, ⟨by first | decide | omega, by first | decide | omega⟩, ?_⟩⟩⟩
  try (any_goals (exfalso; first | omega | exact absurd trivial (by assumption)))
  · rw [if_neg (by omega)] at K; exact K
  · rw [if_pos (by omega), ← hX.2 p h0 (by omega)] at K; exact K
theorem lk_loop {X : zTp} {QX : Nat → zH → Prop} (ht : tOk X) : ∀ (m : Nat) {v : zH} {p : Int}, TM v X → v 77 3 = p → 0 ≤ p → p ≤ X.2 → X.2 - p ≤ m → (∀ v' : zH, FA v v' → v' 77 3 = pS X p → Q (pC X p) v') →
    zJ l G 1 (d + 2) h_M_look k_M_look 115 Q QX 0 [(2, 77)] [] v 115
  | m, v, p, hX, hp, h0, h1, hm, K => by
    have hn := ht.1
    refine zgo ck_M_look 300 0 _ _ _ _ rfl (sg_M_look_0 ?_)
    try simp (disch := omega) only [zup_e, zup_ak, zup_j, Int.zero_add, Int.reduceAdd, mz78, mz79, mz80, mz81, mz82, mz83, mz84, mz85, mz86, mz87, mz88, mz89, mz90, mz91, mz92, mz93, mz94, mz95, mz96, mz97, mz98, mz99, mz100, mz101, mz102, mz103, mz104, mz105, mz106, mz107, mz108, mz109, mz110, mz111, mz112, mz113]
    refine ⟨by first | decide | omega, ?_⟩
    try (any_goals (exfalso; first | omega | exact absurd trivial (by assumption)))
    refine c_M_here ht hX hp h0 ?_
    by_cases hb : p < X.2 ∧ X.1 p = 32
    · rw [if_pos hb.1, hb.2]
      match m, hm with
      | 0, hm => omega
      | m + 1, hm =>
        simp only [hp]
        refine ⟨fun q1 => ⟨by first | decide | omega, ?_⟩, fun q2 => ⟨by first | decide | omega, ⟨by first | decide | omega, by first | decide | omega⟩, by first | decide | omega, ?_⟩⟩
        try (any_goals (exfalso; first | omega | exact absurd trivial (by assumption)))
        have eg := pS_go hb
        have ec : pC X p = pC X (p + 1) := by unfold pC; rw [eg]
        refine lk_loop ht m (v := zupd v 77 3 (p + 1)) (p := p + 1) (TM_A FA_up hX) (zup_e rfl rfl) (by omega) (by omega) (by omega) (fun v' f1 f2 => ?_)
        rw [← ec]
        exact K v' (FA_tr FA_up f1) (by rw [f2, eg])
    · have es := pS_st hb
      have hk : ¬ (if p < X.2 then X.1 p else -1) = 32 := fun r => by
        split at r
        · rename_i q
          exact hb ⟨q, r⟩
        · omega
      refine ⟨fun q1 => ⟨by first | decide | omega, ?_⟩, fun q2 => ⟨by first | decide | omega, ⟨by first | decide | omega, by first | decide | omega⟩, by first | decide | omega, ?_⟩⟩
      try (any_goals (exfalso; first | omega | exact absurd trivial (by assumption)))
      refine c_M_here ht hX hp h0 ?_
      have ec : pC X p = if p < X.2 then X.1 p else -1 := by unfold pC; rw [es]
      rw [← ec]
      exact K v FA_rf (by rw [es]; exact hp)
theorem c_M_look {X : zTp} {p : Int} (ht : tOk X) (hX : TM v X) (hp : v 77 3 = p) (h0 : 0 ≤ p) (h1 : p ≤ X.2) (K : ∀ v' : zH, FA v v' → v' 77 3 = pS X p → Q (pC X p) v') : zC l G 1 (d + 2) h_M_look [(2, 77)] v 115 Q :=
  zC_in ok_M_look rfl (Nat.le_of_ble_eq_true rfl) (lk_loop ht (X.2 - p).toNat hX hp h0 h1 (by omega) K)
theorem c_M_bad (hw : v 77 4 = -1) (K : Q 0 (zupd v 77 4 (v 77 3))) : zC l G 1 (d + 1) h_M_bad [(2, 77)] v 115 Q := by
  refine zC_at ok_M_bad ck_M_bad rfl rfl (sg_M_bad_0 ?_)
  refine ⟨by first | decide | omega, ⟨fun q1 => ⟨by first | decide | omega, by first | decide | omega, ?_⟩, fun q2 => ⟨by first | decide | omega, by first | decide | omega, ?_⟩⟩⟩
  try (any_goals (exfalso; first | omega | exact absurd trivial (by assumption)))
  exact K
theorem c_M_put {n m c x : Int} (hn : 0 ≤ n ∧ n ≤ 4) (hm : 0 ≤ m ∧ m < 340) (h14 : v 77 14 = n) (h81 : v 81 n = m) (K : ∀ v' : zH, FM n m v v' → v' 77 = v 77 → v' 81 n = m + 1 → v' 79 (340 * n + m) = c → v' 80 (340 * n + m) = x → (∀ j : Int, j ≠ 340 * n + m → v' 79 j = v 79 j ∧ v' 80 j = v 80 j) → Q 0 v') : zC l G 1 (d + 1) h_M_put [(2, 77), (0, c), (0, x)] v 115 Q := by
  refine zC_at ok_M_put ck_M_put rfl rfl (sg_M_put_0 ?_)
  try simp (disch := omega) only [zup_e, zup_ak, zup_j, Int.zero_add, Int.reduceAdd, mz78, mz79, mz80, mz81, mz82, mz83, mz84, mz85, mz86, mz87, mz88, mz89, mz90, mz91, mz92, mz93, mz94, mz95, mz96, mz97, mz98, mz99, mz100, mz101, mz102, mz103, mz104, mz105, mz106, mz107, mz108, mz109, mz110, mz111, mz112, mz113, h14, h81]
  refine ⟨by first | decide | omega, by first | decide | omega, ⟨by first | decide | omega, by first | decide | omega⟩, by first | decide | omega, by first | decide | omega, by first | decide | omega, ⟨by first | decide | omega, by first | decide | omega⟩, ⟨by first | decide | omega, by first | decide | omega⟩, by first | decide | omega, ⟨by first | decide | omega, by first | decide | omega⟩, by first | decide | omega, by first | decide | omega, ⟨by first | decide | omega, by first | decide | omega⟩, by first | decide | omega, by first | decide | omega, by first | decide | omega, ⟨by first | decide | omega, by first | decide | omega⟩, ⟨by first | decide | omega, by first | decide | omega⟩, by first | decide | omega, ⟨by first | decide | omega, by first | decide | omega⟩, by first | decide | omega, by first | decide | omega, by first | decide | omega, ⟨by first | decide | omega, by first | decide | omega⟩, ⟨by first | decide | omega, by first | decide | omega⟩, by first | decide | omega, ⟨by first | decide | omega, by first | decide | omega⟩, ?_⟩
  refine K _ ⟨fun b a1 a2 a3 a4 => ?_, fun k a1 a2 a3 => ?_, fun j a => ?_, fun j a => ⟨?_, ?_⟩⟩ ?_ ?_ ?_ ?_ (fun j a => ⟨?_, ?_⟩)
  · rw [zup_a a4, zup_a a3, zup_a a2]
  · rw [zup_a (by omega), zup_a (by omega), zup_a (by omega)]
  · rw [zup_j a, zup_a (by omega), zup_a (by omega)]
  · rw [zup_a (by omega), zup_a (by omega), zup_j (by omega)]
  · rw [zup_a (by omega), zup_j (by omega), zup_a (by omega)]
  · rw [zup_a (by omega), zup_a (by omega), zup_a (by omega)]
  · exact zup_s
  · rw [zup_a (by omega), zup_a (by omega)]
    exact zup_s
  · rw [zup_a (by omega)]
    exact zup_s
  · rw [zup_a (by omega), zup_a (by omega), zup_j a]
  · rw [zup_a (by omega), zup_j a, zup_a (by omega)]
theorem c_M_opens {k p : Int} (hk : 0 ≤ k ∧ k ≤ 6) (hp : v 77 3 = p) (h0 : 0 ≤ p ∧ p ≤ 1000) (hw : v 77 4 = -1) (h5 : v 77 5 = 6 - k) (K0 : k = 0 → ∀ v' : zH, F7 v v' → v' 77 3 = p + 1 → v' 77 4 = p → v' 77 5 = 7 - k → Q 0 v') (K1 : k ≠ 0 → ∀ v' : zH, F7 v v' → v' 77 3 = p + 1 → v' 77 4 = -1 → v' 77 5 = 7 - k → Q 0 v') : zC l G 1 (d + 2) h_M_opens [(2, 77)] v 115 Q := by
  by_cases h : k = 0
  · refine zC_at ok_M_opens ck_M_opens rfl rfl (sg_M_opens_0 ?_)
    try simp (disch := omega) only [zup_e, zup_ak, zup_j, Int.zero_add, Int.reduceAdd, mz78, mz79, mz80, mz81, mz82, mz83, mz84, mz85, mz86, mz87, mz88, mz89, mz90, mz91, mz92, mz93, mz94, mz95, mz96, mz97, mz98, mz99, mz100, mz101, mz102, mz103, mz104, mz105, mz106, mz107, mz108, mz109, mz110, mz111, mz112, mz113, hp, h5]
    refine ⟨by first | decide | omega, ⟨fun q1 => ⟨by first | decide | omega, ⟨by first | decide | omega, by first | decide | omega⟩, by first | decide | omega, by first | decide | omega, ⟨by first | decide | omega, by first | decide | omega⟩, by first | decide | omega, ?_⟩, fun q2 => ⟨by first | decide | omega, ?_⟩⟩⟩
    try (any_goals (exfalso; first | omega | exact absurd trivial (by assumption)))
    refine c_M_bad hw ?_
    rw [hp]
    simp (disch := omega) only [zup_j, h5, hp]
    refine ⟨by first | decide | omega, ⟨by first | decide | omega, by first | decide | omega⟩, by first | decide | omega, by first | decide | omega, ⟨by first | decide | omega, by first | decide | omega⟩, by first | decide | omega, ?_⟩
    refine K0 h _ (F7_tr (F7_up (by omega)) (F7_tr (F7_up (by omega)) (F7_up (by omega)))) zup_s ?_ ?_
    · rw [zup_j (by omega), zup_j (by omega)]; exact zup_s
    · rw [zup_j (by omega), zup_s]; omega
  · refine zC_at ok_M_opens ck_M_opens rfl rfl (sg_M_opens_0 ?_)
    try simp (disch := omega) only [zup_e, zup_ak, zup_j, Int.zero_add, Int.reduceAdd, mz78, mz79, mz80, mz81, mz82, mz83, mz84, mz85, mz86, mz87, mz88, mz89, mz90, mz91, mz92, mz93, mz94, mz95, mz96, mz97, mz98, mz99, mz100, mz101, mz102, mz103, mz104, mz105, mz106, mz107, mz108, mz109, mz110, mz111, mz112, mz113, hp, h5]
    refine ⟨by first | decide | omega, ⟨fun q1 => ⟨by first | decide | omega, ⟨by first | decide | omega, by first | decide | omega⟩, by first | decide | omega, by first | decide | omega, ⟨by first | decide | omega, by first | decide | omega⟩, by first | decide | omega, ?_⟩, fun q2 => ⟨by first | decide | omega, ?_⟩⟩⟩
    try (any_goals (exfalso; first | omega | exact absurd trivial (by assumption)))
    refine K1 h _ (F7_tr (F7_up (by omega)) (F7_up (by omega))) zup_s ?_ ?_
    · rw [zup_j (by omega), zup_j (by omega)]; exact hw
    · rw [zup_j (by omega), zup_s]; omega
/-- closes, behind a fault -/
theorem c_M_closesE {c a dp e : Int} (h3 : v 77 3 = a) (ha : 0 ≤ a ∧ a ≤ 1000) (hw : v 77 4 = e) (he : e ≠ -1) (h5 : v 77 5 = dp) (hd : -100 ≤ dp ∧ dp ≤ 100) (K : ∀ v' : zH, F7 v v' → v' 77 3 = a + 1 → v' 77 4 = e → v' 77 5 = dp - 1 → Q 0 v') : zC l G 1 (d + 3) h_M_closes [(2, 77), (0, c)] v 115 Q := by
  refine zC_at ok_M_closes ck_M_closes rfl rfl (sg_M_closes_0 ?_)
  try simp (disch := omega) only [zup_e, zup_ak, zup_j, Int.zero_add, Int.reduceAdd, mz78, mz79, mz80, mz81, mz82, mz83, mz84, mz85, mz86, mz87, mz88, mz89, mz90, mz91, mz92, mz93, mz94, mz95, mz96, mz97, mz98, mz99, mz100, mz101, mz102, mz103, mz104, mz105, mz106, mz107, mz108, mz109, mz110, mz111, mz112, mz113, h3, h5, hw]
  refine ⟨by first | decide | omega, ⟨fun q1 => ⟨by first | decide | omega, ⟨by first | decide | omega, by first | decide | omega⟩, by first | decide | omega, by first | decide | omega, ⟨by first | decide | omega, by first | decide | omega⟩, by first | decide | omega, ?_⟩, fun q2 => ⟨by first | decide | omega, ?_⟩⟩⟩
  try (any_goals (exfalso; first | omega | exact absurd trivial (by assumption)))
  refine K _ (F7_tr (F7_up (by omega)) (F7_up (by omega))) ?_ ?_ zup_s
  · rw [zup_j (by omega)]; exact zup_s
  · rw [zup_j (by omega), zup_j (by omega)]; exact hw
theorem c_M_closes {X : zTp} {c p dp : Int} (ht : tOk X) (hX : TM v X) (hp : v 77 3 = p) (h0 : 0 ≤ p) (h1 : p ≤ X.2) (hw : v 77 4 = -1) (h5 : v 77 5 = dp) (hd : -100 ≤ dp ∧ dp ≤ 100)
    (K1 : pC X p = c → ∀ v' : zH, F7 v v' → v' 77 3 = pS X p + 1 → v' 77 4 = -1 → v' 77 5 = dp - 1 → Q 0 v')
    (K0 : pC X p ≠ c → ∀ v' : zH, F7 v v' → v' 77 3 = pS X p + 1 → v' 77 4 = pS X p → v' 77 5 = dp - 1 → Q 0 v') : zC l G 1 (d + 3) h_M_closes [(2, 77), (0, c)] v 115 Q := by
  have hn := ht.1
  have hb := pS_b (X := X) p
  refine zC_at ok_M_closes ck_M_closes rfl rfl (sg_M_closes_0 ?_)
  try simp (disch := omega) only [zup_e, zup_ak, zup_j, Int.zero_add, Int.reduceAdd, mz78, mz79, mz80, mz81, mz82, mz83, mz84, mz85, mz86, mz87, mz88, mz89, mz90, mz91, mz92, mz93, mz94, mz95, mz96, mz97, mz98, mz99, mz100, mz101, mz102, mz103, mz104, mz105, mz106, mz107, mz108, mz109, mz110, mz111, mz112, mz113]
  refine ⟨by first | decide | omega, ⟨fun q1 => ⟨by first | decide | omega, ⟨by first | decide | omega, by first | decide | omega⟩, by first | decide | omega, by first | decide | omega, ⟨by first | decide | omega, by first | decide | omega⟩, by first | decide | omega, ?_⟩, fun q2 => ⟨by first | decide | omega, ?_⟩⟩⟩
  try (any_goals (exfalso; first | omega | exact absurd trivial (by assumption)))
  refine c_M_look ht hX hp h0 h1 (fun v1 f1 f2 => ?_)
  have w1 : v1 77 4 = -1 := by rw [f1.2 4 (by omega)]; exact hw
  have d1 : v1 77 5 = dp := by rw [f1.2 5 (by omega)]; exact h5
  by_cases hc : pC X p = c
  · show _
    simp (disch := omega) only [zup_j, f2, d1]
    refine ⟨fun q1 => ⟨by first | decide | omega, ⟨by first | decide | omega, by first | decide | omega⟩, by first | decide | omega, by first | decide | omega, ⟨by first | decide | omega, by first | decide | omega⟩, by first | decide | omega, ?_⟩, fun q2 => ⟨by first | decide | omega, ?_⟩⟩
    try (any_goals (exfalso; first | omega | exact absurd trivial (by assumption)))
    refine K1 hc _ (F7_tr (F7_A f1) (F7_tr (F7_up (by omega)) (F7_up (by omega)))) ?_ ?_ zup_s
    · rw [zup_j (by omega)]; exact zup_s
    · rw [zup_j (by omega), zup_j (by omega)]; exact w1
  · refine ⟨fun q1 => ⟨by first | decide | omega, ⟨by first | decide | omega, by first | decide | omega⟩, by first | decide | omega, by first | decide | omega, ⟨by first | decide | omega, by first | decide | omega⟩, by first | decide | omega, ?_⟩, fun q2 => ⟨by first | decide | omega, ?_⟩⟩
    try (any_goals (exfalso; first | omega | exact absurd trivial (by assumption)))
    refine c_M_bad w1 ?_
    rw [f2]
    simp (disch := omega) only [zup_j, f2, d1]
    refine ⟨by first | decide | omega, ⟨by first | decide | omega, by first | decide | omega⟩, by first | decide | omega, by first | decide | omega, ⟨by first | decide | omega, by first | decide | omega⟩, by first | decide | omega, ?_⟩
    refine K0 hc _ (F7_tr (F7_A f1) (F7_tr (F7_up (by omega)) (F7_tr (F7_up (by omega)) (F7_up (by omega))))) ?_ ?_ zup_s
    · rw [zup_j (by omega)]; exact zup_s
    · rw [zup_j (by omega), zup_j (by omega)]; exact zup_s
theorem pn_4 {X : zTp} {v0 : zH} {R : zPx Int} {QX : Nat → zH → Prop} (ht : tOk X) (hw : v0 77 4 = -1) (Ke : ∀ (e x : Int) (v' : zH), R = .error e → F7 v0 v' → v' 77 3 = e → v' 77 4 = e → v' 77 5 = v0 77 5 → Q x v') (Ko : ∀ (q x : Int) (v' : zH), R = .ok (q, x) → FA v0 v' → v' 77 3 = q → Q x v') :
    ∀ (m i : Nat) {v : zH} {q x : Int}, i + m = 4 → TM v X → FA v0 v → v 77 3 = q → 0 ≤ q → q ≤ X.2 → 0 ≤ x → x < 10 ^ i → R = pDg X m q x →
    zJ l G 1 (d + 2) h_M_plainNumber k_M_plainNumber 115 Q QX 4 [(2, 77), (0, x), (0, (i : Int))] [] v 115
  | m, i, v, q, x, hi, hX, hF, hq, h0, h1, hx0, hx1, hR => by
    have hn := ht.1
    have hp : (10 : Int) ^ i ≤ 10000 := by
      have : i = 0 ∨ i = 1 ∨ i = 2 ∨ i = 3 ∨ i = 4 := by omega
      rcases this with rfl | rfl | rfl | rfl | rfl <;> decide
    have hdi : (if isDg (if q < X.2 then X.1 q else -1) = true then (1 : Int) else 0) = if pDi X q = true then 1 else 0 := by
      have e : isDg (if q < X.2 then X.1 q else -1) = pDi X q := by
        rw [Bool.eq_iff_iff, isDg_iff, pDi_iff]
        split <;> omega
      rw [e]
    have hw4 : v 77 4 = -1 := by rw [hF.2 4 (by omega)]; exact hw
    refine zgo ck_M_plainNumber 300 4 _ _ _ _ rfl (sg_M_plainNumber_4 ?_)
    match m, hi with
    | 0, hi =>
      have hR : R = if pDi X q = true then .error q else .ok (q, x) := hR
      refine ⟨fun q1 => ⟨by first | decide | omega, ?_⟩, fun q2 => ⟨by first | decide | omega, ?_⟩⟩
      try (any_goals (exfalso; first | omega | exact absurd trivial (by assumption)))
      refine c_M_here ht hX hq h0 ?_
      refine c_M_isDigit ?_
      rw [hdi]
      by_cases hd : pDi X q = true
      · rw [if_pos hd] at hR
        rw [if_pos hd]
        refine ⟨fun q1 => ?_, fun q2 => ⟨by first | decide | omega, ?_⟩⟩
        try (any_goals (exfalso; first | omega | exact absurd trivial (by assumption)))
        refine c_M_bad hw4 ?_
        rw [hq]
        exact Ke q x _ hR (F7_tr (F7_A hF) (F7_up (by omega))) (by rw [zup_j (by omega)]; exact hq) zup_s (by rw [zup_j (by omega)]; exact hF.2 5 (by omega))
      · rw [if_neg hd] at hR
        rw [if_neg hd]
        refine ⟨fun q1 => ?_, fun q2 => ⟨by first | decide | omega, ?_⟩⟩
        try (any_goals (exfalso; first | omega | exact absurd trivial (by assumption)))
        exact Ko q x v hR hF hq
    | m + 1, hi =>
      have hR : R = if pDi X q = true then pDg X m (q + 1) (x * 10 + X.1 q - 48) else .ok (q, x) := hR
      refine ⟨fun q1 => ⟨by first | decide | omega, ?_⟩, fun q2 => ⟨by first | decide | omega, ?_⟩⟩
      try (any_goals (exfalso; first | omega | exact absurd trivial (by assumption)))
      refine c_M_here ht hX hq h0 ?_
      refine c_M_isDigit ?_
      rw [hdi]
      by_cases hd : pDi X q = true
      · rw [if_pos hd] at hR
        rw [if_pos hd]
        have hd' := pDi_iff.mp hd
        have hp2 : (10 : Int) ^ i ≤ 1000 := by
          have : i = 0 ∨ i = 1 ∨ i = 2 ∨ i = 3 := by omega
          rcases this with rfl | rfl | rfl | rfl <;> decide
        have hpw : (10 : Int) ^ (i + 1) = 10 ^ i * 10 := Int.pow_succ _ _
        refine ⟨fun q1 => ⟨by first | decide | omega, ?_⟩, fun q2 => ⟨⟨by first | decide | omega, by first | decide | omega⟩, by first | decide | omega, ?_⟩⟩
        try (any_goals (exfalso; first | omega | exact absurd trivial (by assumption)))
        refine c_M_here ht hX hq h0 ?_
        rw [if_pos hd'.1]
        show _
        simp only [hq]
        refine ⟨⟨by first | decide | omega, by first | decide | omega⟩, ⟨by first | decide | omega, by first | decide | omega⟩, by first | decide | omega, ⟨by first | decide | omega, by first | decide | omega⟩, by first | decide | omega, ⟨by first | decide | omega, by first | decide | omega⟩, ?_⟩
        exact pn_4 ht hw Ke Ko m (i + 1) (by omega) (TM_A FA_up hX) (FA_tr hF FA_up) (zup_e rfl rfl) (by omega) (by omega) (by omega) (by omega) (by rw [show 10 * x + X.1 q - 48 = x * 10 + X.1 q - 48 by omega]; exact hR)
      · rw [if_neg hd] at hR
        rw [if_neg hd]
        refine ⟨fun q1 => ⟨by first | decide | omega, ?_⟩, fun q2 => ⟨⟨by first | decide | omega, by first | decide | omega⟩, by first | decide | omega, ?_⟩⟩
        try (any_goals (exfalso; first | omega | exact absurd trivial (by assumption)))
        refine c_M_here ht hX hq h0 ?_
        refine c_M_isDigit ?_
        rw [hdi, if_neg hd]
        refine ⟨fun q1 => ?_, fun q2 => ⟨by first | decide | omega, ?_⟩⟩
        try (any_goals (exfalso; first | omega | exact absurd trivial (by assumption)))
        exact Ko q x v hR hF hq
theorem c_M_plainNumber {X : zTp} {p : Int} (ht : tOk X) (hX : TM v X) (hp : v 77 3 = p) (h0 : 0 ≤ p) (h1 : p ≤ X.2) (hw : v 77 4 = -1) (Ke : ∀ (e x : Int) (v' : zH), pDg X 4 p 0 = .error e → F7 v v' → v' 77 3 = e → v' 77 4 = e → v' 77 5 = v 77 5 → Q x v') (Ko : ∀ (q x : Int) (v' : zH), pDg X 4 p 0 = .ok (q, x) → FA v v' → v' 77 3 = q → Q x v') : zC l G 1 (d + 2) h_M_plainNumber [(2, 77)] v 115 Q := by
  refine zC_at ok_M_plainNumber ck_M_plainNumber rfl rfl (sg_M_plainNumber_0 ?_)
  exact pn_4 ht hw Ke Ko 4 0 (by omega) hX FA_rf hp h0 h1 (by omega) (by decide) rfl
end
