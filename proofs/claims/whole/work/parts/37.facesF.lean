/-! THE CLASS: choice, most, frost -/
section
variable {l : Launch} {G : zG} {d : Nat} {v : zH} {Q : Int → zH → Prop} {w : Int} {W : zWl} {c : zCo} {S : zSk}
theorem bf_s {f : Int → Int} {T : Int → Bool} {n : Nat} : sBf f T (n + 1) = if T n = false ∧ (sBf f T n = -1 ∨ f (sBf f T n) < f n) then (n : Int) else sBf f T n := rfl
theorem bf_b {f : Int → Int} {T : Int → Bool} : ∀ n : Nat, sBf f T n = -1 ∨ (0 ≤ sBf f T n ∧ sBf f T n < n)
  | 0 => Or.inl rfl
  | n + 1 => by
    have := bf_b (f := f) (T := T) n
    rw [bf_s]
    split <;> omega
theorem bf_4 {f : Int → Int} {T : Int → Bool} {t : Nat} {QX : Nat → zH → Prop} (hQ : QC v w W c S) (ht : t < 2 ^ 24) (hT : ∀ k : Nat, (k : Int) < wN W → T k = t.testBit k) (hf : ∀ a : Int, 0 ≤ a → a < wN W → v (33 + 6) a = f a) (K : Q (sBf f T (wN W).toNat) v) :
    ∀ (m i : Nat), (i : Int) + m = wN W → zJ l G 1 (d + 1) h_W_bestFree k_W_bestFree 115 Q QX 4 [(2, 0), (0, (t : Int)), (0, sBf f T i), (0, (i : Int)), (3, 0)] [] v 115
  | 0, i, hi => by
    have hw := hQ.2.1
    have w0 := (zwo_f hw).1
    have e : i = (wN W).toNat := by omega
    refine zgo ck_W_bestFree 300 4 _ _ _ _ rfl (sg_W_bestFree_4 ?_)
    try simp (disch := omega) only [zup_e, zup_ak, zup_j, Int.zero_add, hQ.1, hQ.2.2.2.1.2.2.1]
    refine ⟨by first | decide | omega, by first | decide | omega, by first | decide | omega, ⟨fun q1 => ?_, fun q2 => ⟨fun q3 => ⟨fun q4 => ⟨⟨by first | decide | omega, by first | decide | omega⟩, ?_⟩, fun q5 => ⟨fun q6 => ⟨⟨by first | decide | omega, by first | decide | omega⟩, ?_⟩, fun q7 => ⟨by first | decide | omega, by first | decide | omega, by first | decide | omega, ⟨by first | decide | omega, by first | decide | omega⟩, by first | decide | omega, by first | decide | omega, by first | decide | omega, ⟨by first | decide | omega, by first | decide | omega⟩, ⟨fun q8 => ⟨⟨by first | decide | omega, by first | decide | omega⟩, ?_⟩, fun q9 => ⟨⟨by first | decide | omega, by first | decide | omega⟩, ?_⟩⟩⟩⟩⟩, fun q10 => ⟨fun q11 => ⟨⟨by first | decide | omega, by first | decide | omega⟩, ?_⟩, fun q12 => ⟨fun q13 => ⟨⟨by first | decide | omega, by first | decide | omega⟩, ?_⟩, fun q14 => ⟨by first | decide | omega, by first | decide | omega, by first | decide | omega, ⟨by first | decide | omega, by first | decide | omega⟩, by first | decide | omega, by first | decide | omega, by first | decide | omega, ⟨by first | decide | omega, by first | decide | omega⟩, ⟨fun q15 => ⟨⟨by first | decide | omega, by first | decide | omega⟩, ?_⟩, fun q16 => ⟨⟨by first | decide | omega, by first | decide | omega⟩, ?_⟩⟩⟩⟩⟩⟩⟩⟩
    try (any_goals (exfalso; first | omega | exact absurd trivial (by assumption)))
    rw [e]
    exact K
  | m + 1, i, hi => by
    have hw := hQ.2.1
    have w0 := (zwo_f hw).1
    have hN := hQ.2.2.1.2.2.2.1
    have z6 : zLN (33 + 6) = 24 := by decide
    have hb := bf_b (f := f) (T := T) i
    have hTi := hT i (by omega)
    have e1 := hf i (by omega) (by omega)
    have hbt := bt01 (a := t) (k := i) (by omega) (by omega)
    have next : zJ l G 1 (d + 1) h_W_bestFree k_W_bestFree 115 Q QX 4 [(2, 0), (0, (t : Int)), (0, sBf f T (i + 1)), (0, ((i + 1 : Nat) : Int)), (3, 0)] [] v 115 := bf_4 hQ ht hT hf K m (i + 1) (by omega)
    have ei : ((i + 1 : Nat) : Int) = (i : Int) + 1 := by omega
    rw [ei, bf_s] at next
    refine zgo ck_W_bestFree 300 4 _ _ _ _ rfl (sg_W_bestFree_4 ?_)
    simp only [Int.zero_add, hQ.1, hQ.2.2.2.1.2.2.1, e1, hbt]
    by_cases ht1 : t.testBit i = true
    · rw [if_pos ht1]
      rw [ht1] at hTi
      rw [if_neg (fun q => by rw [hTi] at q; cases q.1)] at next
      refine ⟨by first | decide | omega, by first | decide | omega, by first | decide | omega, ⟨fun q1 => ?_, fun q2 => ⟨fun q3 => ⟨fun q4 => ⟨⟨by first | decide | omega, by first | decide | omega⟩, ?_⟩, fun q5 => ⟨fun q6 => ⟨⟨by first | decide | omega, by first | decide | omega⟩, ?_⟩, fun q7 => ⟨by first | decide | omega, by first | decide | omega, by first | decide | omega, ⟨by first | decide | omega, by first | decide | omega⟩, by first | decide | omega, by first | decide | omega, by first | decide | omega, ⟨by first | decide | omega, by first | decide | omega⟩, ⟨fun q8 => ⟨⟨by first | decide | omega, by first | decide | omega⟩, ?_⟩, fun q9 => ⟨⟨by first | decide | omega, by first | decide | omega⟩, ?_⟩⟩⟩⟩⟩, fun q10 => ⟨fun q11 => ⟨⟨by first | decide | omega, by first | decide | omega⟩, ?_⟩, fun q12 => ⟨fun q13 => ⟨⟨by first | decide | omega, by first | decide | omega⟩, ?_⟩, fun q14 => ⟨by first | decide | omega, by first | decide | omega, by first | decide | omega, ⟨by first | decide | omega, by first | decide | omega⟩, by first | decide | omega, by first | decide | omega, by first | decide | omega, ⟨by first | decide | omega, by first | decide | omega⟩, ⟨fun q15 => ⟨⟨by first | decide | omega, by first | decide | omega⟩, ?_⟩, fun q16 => ⟨⟨by first | decide | omega, by first | decide | omega⟩, ?_⟩⟩⟩⟩⟩⟩⟩⟩
      try (any_goals (exfalso; first | omega | exact absurd trivial (by assumption)))
      exact next
    · rw [if_neg ht1]
      have ht1 : t.testBit i = false := by simpa using ht1
      rw [ht1] at hTi
      by_cases q : sBf f T i = -1
      · rw [if_pos ⟨hTi, Or.inl q⟩] at next
        refine ⟨by first | decide | omega, by first | decide | omega, by first | decide | omega, ⟨fun q1 => ?_, fun q2 => ⟨fun q3 => ⟨fun q4 => ⟨⟨by first | decide | omega, by first | decide | omega⟩, ?_⟩, fun q5 => ⟨fun q6 => ⟨⟨by first | decide | omega, by first | decide | omega⟩, ?_⟩, fun q7 => ⟨by first | decide | omega, by first | decide | omega, by first | decide | omega, ⟨by first | decide | omega, by first | decide | omega⟩, by first | decide | omega, by first | decide | omega, by first | decide | omega, ⟨by first | decide | omega, by first | decide | omega⟩, ⟨fun q8 => ⟨⟨by first | decide | omega, by first | decide | omega⟩, ?_⟩, fun q9 => ⟨⟨by first | decide | omega, by first | decide | omega⟩, ?_⟩⟩⟩⟩⟩, fun q10 => ⟨fun q11 => ⟨⟨by first | decide | omega, by first | decide | omega⟩, ?_⟩, fun q12 => ⟨fun q13 => ⟨⟨by first | decide | omega, by first | decide | omega⟩, ?_⟩, fun q14 => ⟨by first | decide | omega, by first | decide | omega, by first | decide | omega, ⟨by first | decide | omega, by first | decide | omega⟩, by first | decide | omega, by first | decide | omega, by first | decide | omega, ⟨by first | decide | omega, by first | decide | omega⟩, ⟨fun q15 => ⟨⟨by first | decide | omega, by first | decide | omega⟩, ?_⟩, fun q16 => ⟨⟨by first | decide | omega, by first | decide | omega⟩, ?_⟩⟩⟩⟩⟩⟩⟩⟩
        try (any_goals (exfalso; first | omega | exact absurd trivial (by assumption)))
        exact next
      · have e2 := hf (sBf f T i) (by omega) (by omega)
        rw [e2]
        by_cases q2 : f (sBf f T i) < f i
        · rw [if_pos ⟨hTi, Or.inr q2⟩] at next
          refine ⟨by first | decide | omega, by first | decide | omega, by first | decide | omega, ⟨fun q1 => ?_, fun q2 => ⟨fun q3 => ⟨fun q4 => ⟨⟨by first | decide | omega, by first | decide | omega⟩, ?_⟩, fun q5 => ⟨fun q6 => ⟨⟨by first | decide | omega, by first | decide | omega⟩, ?_⟩, fun q7 => ⟨by first | decide | omega, by first | decide | omega, by first | decide | omega, ⟨by first | decide | omega, by first | decide | omega⟩, by first | decide | omega, by first | decide | omega, by first | decide | omega, ⟨by first | decide | omega, by first | decide | omega⟩, ⟨fun q8 => ⟨⟨by first | decide | omega, by first | decide | omega⟩, ?_⟩, fun q9 => ⟨⟨by first | decide | omega, by first | decide | omega⟩, ?_⟩⟩⟩⟩⟩, fun q10 => ⟨fun q11 => ⟨⟨by first | decide | omega, by first | decide | omega⟩, ?_⟩, fun q12 => ⟨fun q13 => ⟨⟨by first | decide | omega, by first | decide | omega⟩, ?_⟩, fun q14 => ⟨by first | decide | omega, by first | decide | omega, by first | decide | omega, ⟨by first | decide | omega, by first | decide | omega⟩, by first | decide | omega, by first | decide | omega, by first | decide | omega, ⟨by first | decide | omega, by first | decide | omega⟩, ⟨fun q15 => ⟨⟨by first | decide | omega, by first | decide | omega⟩, ?_⟩, fun q16 => ⟨⟨by first | decide | omega, by first | decide | omega⟩, ?_⟩⟩⟩⟩⟩⟩⟩⟩
          try (any_goals (exfalso; first | omega | exact absurd trivial (by assumption)))
          exact next
        · rw [if_neg (fun r => by rcases r.2 with r | r <;> omega)] at next
          refine ⟨by first | decide | omega, by first | decide | omega, by first | decide | omega, ⟨fun q1 => ?_, fun q2 => ⟨fun q3 => ⟨fun q4 => ⟨⟨by first | decide | omega, by first | decide | omega⟩, ?_⟩, fun q5 => ⟨fun q6 => ⟨⟨by first | decide | omega, by first | decide | omega⟩, ?_⟩, fun q7 => ⟨by first | decide | omega, by first | decide | omega, by first | decide | omega, ⟨by first | decide | omega, by first | decide | omega⟩, by first | decide | omega, by first | decide | omega, by first | decide | omega, ⟨by first | decide | omega, by first | decide | omega⟩, ⟨fun q8 => ⟨⟨by first | decide | omega, by first | decide | omega⟩, ?_⟩, fun q9 => ⟨⟨by first | decide | omega, by first | decide | omega⟩, ?_⟩⟩⟩⟩⟩, fun q10 => ⟨fun q11 => ⟨⟨by first | decide | omega, by first | decide | omega⟩, ?_⟩, fun q12 => ⟨fun q13 => ⟨⟨by first | decide | omega, by first | decide | omega⟩, ?_⟩, fun q14 => ⟨by first | decide | omega, by first | decide | omega, by first | decide | omega, ⟨by first | decide | omega, by first | decide | omega⟩, by first | decide | omega, by first | decide | omega, by first | decide | omega, ⟨by first | decide | omega, by first | decide | omega⟩, ⟨fun q15 => ⟨⟨by first | decide | omega, by first | decide | omega⟩, ?_⟩, fun q16 => ⟨⟨by first | decide | omega, by first | decide | omega⟩, ?_⟩⟩⟩⟩⟩⟩⟩⟩
          try (any_goals (exfalso; first | omega | exact absurd trivial (by assumption)))
          exact next
theorem c_W_bestFree {f : Int → Int} {T : Int → Bool} {t : Nat} (hQ : QC v w W c S) (ht : t < 2 ^ 24) (hT : ∀ k : Nat, (k : Int) < wN W → T k = t.testBit k) (hf : ∀ a : Int, 0 ≤ a → a < wN W → v (33 + 6) a = f a) (K : Q (sBf f T (wN W).toNat) v) : zC l G 1 (d + 1) h_W_bestFree [(2, 0), (0, (t : Int))] v 115 Q := by
  have hN := hQ.2.2.1.2.2.2.1
  refine zC_at ok_W_bestFree ck_W_bestFree rfl rfl (sg_W_bestFree_0 ?_)
  exact bf_4 hQ ht hT hf K (wN W).toNat 0 (by omega)
theorem ch_s {f : Int → Int} {n k : Nat} : sCh f n (k + 1) = (sBf f (sCh f n k).2 n, if sBf f (sCh f n k).2 n = -1 then (sCh f n k).2 else sTk1 (sCh f n k).2 (sBf f (sCh f n k).2 n)) := rfl
theorem ch_none {f : Int → Int} {n k : Nat} (h : sBf f (sCh f n k).2 n = -1) : ∀ m : Nat, (sCh f n (k + 1 + m)).1 = -1 ∧ (sCh f n (k + 1 + m)).2 = (sCh f n k).2
  | 0 => by
    rw [Nat.add_zero, ch_s, h]
    exact ⟨rfl, rfl⟩
  | m + 1 => by
    have ih := ch_none h m
    rw [← Nat.add_assoc, ch_s, ih.2, h]
    exact ⟨rfl, rfl⟩
theorem ci_16 {f : Int → Int} {n : Nat} {QX : Nat → zH → Prop} (hQ : QC v w W c S) (hn : n ≤ 5) (hf : ∀ a : Int, 0 ≤ a → a < wN W → v (33 + 6) a = f a)
    (K : Q (if (sCh f (wN W).toNat (n + 1)).1 = -1 then -1 else nmi (wC W) (sCh f (wN W).toNat (n + 1)).1) v) :
    ∀ (m i t : Nat), i + m = n + 1 → t < 2 ^ 24 → (∀ k : Nat, (k : Int) < wN W → (sCh f (wN W).toNat i).2 k = t.testBit k) → ((sCh f (wN W).toNat i).1 = -1 → i = 0) →
    zJ l G 1 (d + 2) h_W_choice k_W_choice 115 Q QX 16 [(2, 0), (0, (n : Int)), (0, (t : Int)), (0, (sCh f (wN W).toNat i).1), (0, (i : Int))] [] v 115
  | 0, i, t, hi, ht, hT, hz => by
    have hw := hQ.2.1
    have w0 := (zwo_f hw).1
    have hN := hQ.2.2.1.2.2.2.1
    have e : i = n + 1 := by omega
    subst e
    have hne : ¬ (sCh f (wN W).toNat (n + 1)).1 = -1 := fun q => by have := hz q; omega
    rw [if_neg hne] at K
    have hb := bf_b (f := f) (T := (sCh f (wN W).toNat n).2) (wN W).toNat
    have ech : (sCh f (wN W).toNat (n + 1)).1 = sBf f (sCh f (wN W).toNat n).2 (wN W).toNat := rfl
    rw [← ech] at hb
    refine zgo ck_W_choice 300 16 _ _ _ _ rfl (sg_W_choice_16 ?_)
    try simp (disch := omega) only [zup_e, zup_ak, zup_j, Int.zero_add, hQ.1]
    refine ⟨fun q1 => ⟨by first | decide | omega, by first | decide | omega, by first | decide | omega, ?_⟩, fun q2 => ⟨by first | decide | omega, ?_⟩⟩
    try (any_goals (exfalso; first | omega | exact absurd trivial (by assumption)))
    exact c_nm hQ (by omega) K
  | m + 1, i, t, hi, ht, hT, hz => by
    have hN := hQ.2.2.1.2.2.2.1
    refine zgo ck_W_choice 300 16 _ _ _ _ rfl (sg_W_choice_16 ?_)
    refine ⟨fun q1 => ⟨by first | decide | omega, by first | decide | omega, by first | decide | omega, ?_⟩, fun q2 => ⟨by first | decide | omega, ?_⟩⟩
    try (any_goals (exfalso; first | omega | exact absurd trivial (by assumption)))
    refine c_W_bestFree hQ ht hT hf ?_
    have hb := bf_b (f := f) (T := (sCh f (wN W).toNat i).2) (wN W).toNat
    by_cases hx : sBf f (sCh f (wN W).toNat i).2 (wN W).toNat = -1
    · have h1 := (ch_none hx m).1
      have e : i + 1 + m = n + 1 := by omega
      rw [e] at h1
      rw [if_pos h1] at K
      rw [hx]
      refine ⟨fun q1 => ⟨⟨by first | decide | omega, by first | decide | omega⟩, ?_⟩, fun q2 => ?_⟩
      try (any_goals (exfalso; first | omega | exact absurd trivial (by assumption)))
      exact K
    · obtain ⟨b, hbb⟩ : ∃ b : Nat, sBf f (sCh f (wN W).toNat i).2 (wN W).toNat = b := ⟨(sBf f (sCh f (wN W).toNat i).2 (wN W).toNat).toNat, by omega⟩
      rw [hbb] at hb
      have hzo := zor_bit (a := t) (j := b) ht (by omega)
      rw [hbb, hzo]
      have ec : sCh f (wN W).toNat (i + 1) = ((b : Int), sTk1 (sCh f (wN W).toNat i).2 b) := by
        rw [ch_s, if_neg hx, hbb]
      refine ⟨fun q1 => ⟨⟨by first | decide | omega, by first | decide | omega⟩, ?_⟩, fun q2 => ?_⟩
      try (any_goals (exfalso; first | omega | exact absurd trivial (by assumption)))
      have next : (∀ k : Nat, (k : Int) < wN W → (sCh f (wN W).toNat (i + 1)).2 k = (t ||| 2 ^ b).testBit k) → ((sCh f (wN W).toNat (i + 1)).1 = -1 → i + 1 = 0) → zJ l G 1 (d + 2) h_W_choice k_W_choice 115 Q QX 16 [(2, 0), (0, (n : Int)), (0, ((t ||| 2 ^ b : Nat) : Int)), (0, (sCh f (wN W).toNat (i + 1)).1), (0, ((i + 1 : Nat) : Int))] [] v 115 := fun h1 h2 => ci_16 hQ hn hf K m (i + 1) (t ||| 2 ^ b) (by omega) (or_lt ht (by omega)) h1 h2
      have ei : ((i + 1 : Nat) : Int) = (i : Int) + 1 := by omega
      rw [ei, ec] at next
      refine next (fun k hk => ?_) (fun q => ?_)
      · show sTk1 (sCh f (wN W).toNat i).2 b k = _
        unfold sTk1
        rw [hT k hk, or_bit, Bool.or_comm]
        congr 1
        rw [Bool.eq_iff_iff]
        simp only [decide_eq_true_eq]
        omega
      · simp only at q
        omega
theorem c_W_choice {z : Int} (hQ : QC v w W c S) (K : ∀ v' : zH, Fq v v' → QC v' w W c S → Q (aChoice W S c z) v') : zC l G 1 (d + 7) h_W_choice [(2, 0), (0, z)] v 115 Q := by
  unfold aChoice at K
  have hw := hQ.2.1
  obtain ⟨w0, w1, w3, w5, -⟩ := zwo_f hw
  have hZ := hQ.2.2.1.2.2.2.2.2.2.2.2.1
  refine zC_at ok_W_choice ck_W_choice rfl rfl (sg_W_choice_0 ?_)
  try simp (disch := omega) only [zup_e, zup_ak, zup_j, Int.zero_add, hQ.1]
  refine ⟨by first | decide | omega, by first | decide | omega, by first | decide | omega, by first | decide | omega, ?_⟩
  try (any_goals (exfalso; first | omega | exact absurd trivial (by assumption)))
  refine c_has2 hQ ?_
  by_cases h1 : 0 ≤ z ∧ z < wZ W
  rotate_left
  · rw [if_neg h1]
    refine ⟨fun q1 => ⟨by first | decide | omega, ?_⟩, fun q2 => ?_⟩
    try (any_goals (exfalso; first | omega | exact absurd trivial (by assumption)))
    rw [if_neg (fun q => h1 q)] at K
    exact K _ Fq_rf hQ
  rw [if_pos h1]
  refine ⟨fun q1 => ⟨by first | decide | omega, ?_⟩, fun q2 => ?_⟩
  try (any_goals (exfalso; first | omega | exact absurd trivial (by assumption)))
  rw [if_pos h1] at K
  refine c_W_nightAhead hQ (fun v1 g1 g2 g3 => ?_)
  obtain ⟨n, rfl⟩ : ∃ n : Nat, z = n := ⟨z.toNat, by omega⟩
  rw [Int.toNat_natCast] at K
  exact ci_16 g2 (by omega) g3 (K v1 g1 g2) (n + 1) 0 0 (by omega) (by decide) (fun k _ => by show false = _; simp) (fun _ => rfl)
-- who can sleep warm
theorem c_pc {x : Int} (hx : 0 ≤ x ∧ x < 32) (K : Q (sPc x) v) : zC l G 1 (d + 1) h_Intg_bitCount [(0, x)] v 115 Q := by
  obtain ⟨n, rfl⟩ : ∃ n : Nat, x = n := ⟨x.toNat, by omega⟩
  refine c_bitCount (by omega) ?_
  have := pc_5 ⟨n, by omega⟩
  simp only at this
  rw [this]
  exact K
theorem c_W_askedBy {z : Int} (hQ : QC v w W c S) (hz : 0 ≤ z ∧ z < wZ W) (K : Q (sAsk W z) v) : zC l G 1 (d + 2) h_W_askedBy [(2, 0), (0, z)] v 115 Q := by
  have hw := hQ.2.1
  obtain ⟨w0, w1, w3, w5, -⟩ := zwo_f hw
  have hl := hQ.2.2.1.2.2.2.2.2.2.2.2.2.2.2.1 z hz.1 hz.2
  refine zC_at ok_W_askedBy ck_W_askedBy rfl rfl (sg_W_askedBy_0 ?_)
  try simp (disch := omega) only [zup_e, zup_ak, zup_j, Int.zero_add, hQ.1]
  refine ⟨by first | decide | omega, by first | decide | omega, by first | decide | omega, by first | decide | omega, ?_⟩
  refine q_sl hQ hz (by omega) ?_
  rw [Int.add_zero]
  try simp (disch := omega) only [zup_e, zup_ak, zup_j, Int.zero_add, hQ.1]
  refine ⟨by first | decide | omega, by first | decide | omega, by first | decide | omega, by first | decide | omega, ?_⟩
  refine q_sl hQ hz (by omega) ?_
  refine ⟨⟨by first | decide | omega, by first | decide | omega⟩, ?_⟩
  exact K
theorem wh_4 {x s : Int} {QX : Nat → zH → Prop} (hQ : QC v w W c S) (hs : 0 ≤ s ∧ s < 32) (K : Q (sWho W x s) v) :
    ∀ (m i : Nat), (i : Int) + m = wZ W → zJ l G 1 (d + 3) h_W_sleepersWhoAsk k_W_sleepersWhoAsk 115 Q QX 4 [(2, 0), (0, x), (0, s), (0, zsm (fun z => if sBt s z = true ∧ x ≤ sAsk W z then 1 else 0) i), (0, (i : Int))] [] v 115
  | 0, i, hi => by
    have hw := hQ.2.1
    obtain ⟨w0, w1, w3, w5, -⟩ := zwo_f hw
    have e : i = (wZ W).toNat := by omega
    refine zgo ck_W_sleepersWhoAsk 300 4 _ _ _ _ rfl (sg_W_sleepersWhoAsk_4 ?_)
    try simp (disch := omega) only [zup_e, zup_ak, zup_j, Int.zero_add, hQ.1, hQ.2.2.2.1.2.2.2.2.2.1]
    refine ⟨by first | decide | omega, by first | decide | omega, by first | decide | omega, by first | decide | omega, ⟨fun q1 => ?_, fun q2 => ⟨fun q3 => ⟨⟨by first | decide | omega, by first | decide | omega⟩, ?_⟩, fun q4 => ⟨by first | decide | omega, ?_⟩⟩⟩⟩
    try (any_goals (exfalso; first | omega | exact absurd trivial (by assumption)))
    rw [e]
    exact K
  | m + 1, i, hi => by
    have hw := hQ.2.1
    obtain ⟨w0, w1, w3, w5, -⟩ := zwo_f hw
    have hZ := hQ.2.2.1.2.2.2.2.2.2.2.2.1
    have zb := zsm_b (f := fun z => if sBt s z = true ∧ x ≤ sAsk W z then 1 else 0) (k := 1) i (fun j _ _ => by split <;> omega)
    have es : zsm (fun z => if sBt s z = true ∧ x ≤ sAsk W z then 1 else 0) (i + 1) = zsm (fun z => if sBt s z = true ∧ x ≤ sAsk W z then 1 else 0) i + if sBt s i = true ∧ x ≤ sAsk W i then 1 else 0 := rfl
    have next : zJ l G 1 (d + 3) h_W_sleepersWhoAsk k_W_sleepersWhoAsk 115 Q QX 4 [(2, 0), (0, x), (0, s), (0, zsm (fun z => if sBt s z = true ∧ x ≤ sAsk W z then 1 else 0) (i + 1)), (0, ((i + 1 : Nat) : Int))] [] v 115 := wh_4 hQ hs K m (i + 1) (by omega)
    have ei : ((i + 1 : Nat) : Int) = (i : Int) + 1 := by omega
    rw [ei, es] at next
    refine zgo ck_W_sleepersWhoAsk 300 4 _ _ _ _ rfl (sg_W_sleepersWhoAsk_4 ?_)
    try simp (disch := omega) only [zup_e, zup_ak, zup_j, Int.zero_add, hQ.1, hQ.2.2.2.1.2.2.2.2.2.1]
    refine ⟨by first | decide | omega, by first | decide | omega, by first | decide | omega, by first | decide | omega, ⟨fun q1 => ?_, fun q2 => ⟨fun q3 => ⟨⟨by first | decide | omega, by first | decide | omega⟩, ?_⟩, fun q4 => ⟨by first | decide | omega, ?_⟩⟩⟩⟩
    try (any_goals (exfalso; first | omega | exact absurd trivial (by assumption)))
    · rw [if_neg (fun r => q3 (sBt_iff.mp r.1)), Int.add_zero] at next
      exact next
    · refine c_W_askedBy hQ ⟨by omega, by omega⟩ ?_
      refine ⟨fun q1 => ⟨⟨by first | decide | omega, by first | decide | omega⟩, ?_⟩, fun q2 => ⟨⟨by first | decide | omega, by first | decide | omega⟩, ⟨by first | decide | omega, by first | decide | omega⟩, ?_⟩⟩
      try (any_goals (exfalso; first | omega | exact absurd trivial (by assumption)))
      · rw [if_neg (fun r => by have := r.2; omega), Int.add_zero] at next
        exact next
      · rw [if_pos ⟨sBt_iff.mpr q4, q2⟩] at next
        exact next
theorem c_W_sleepersWhoAsk {x s : Int} (hQ : QC v w W c S) (hs : 0 ≤ s ∧ s < 32) (K : Q (sWho W x s) v) : zC l G 1 (d + 3) h_W_sleepersWhoAsk [(2, 0), (0, x), (0, s)] v 115 Q := by
  have hZ := hQ.2.2.1.2.2.2.2.2.2.2.2.1
  refine zC_at ok_W_sleepersWhoAsk ck_W_sleepersWhoAsk rfl rfl (sg_W_sleepersWhoAsk_0 ?_)
  exact wh_4 hQ hs K (wZ W).toNat 0 (by omega)
theorem wa_4 {x : Int} {f : Int → Int} {QX : Nat → zH → Prop} (hQ : QC v w W c S) (hf : ∀ a : Int, 0 ≤ a → a < wN W → v (33 + 6) a = f a) (K : Q (sWrm W f x) v) :
    ∀ (m i : Nat), (i : Int) + m = wN W → zJ l G 1 (d + 1) h_W_warmCells k_W_warmCells 115 Q QX 4 [(2, 0), (0, x), (0, zsm (fun a => if x ≤ f a then 1 else 0) i), (0, (i : Int))] [] v 115
  | 0, i, hi => by
    have hw := hQ.2.1
    obtain ⟨w0, w1, w3, w5, -⟩ := zwo_f hw
    have e : i = (wN W).toNat := by omega
    refine zgo ck_W_warmCells 300 4 _ _ _ _ rfl (sg_W_warmCells_4 ?_)
    try simp (disch := omega) only [zup_e, zup_ak, zup_j, Int.zero_add, hQ.1, hQ.2.2.2.1.2.2.1]
    refine ⟨by first | decide | omega, by first | decide | omega, by first | decide | omega, ⟨fun q1 => ?_, fun q2 => ⟨by first | decide | omega, by first | decide | omega, by first | decide | omega, ⟨by first | decide | omega, by first | decide | omega⟩, ⟨fun q3 => ⟨⟨by first | decide | omega, by first | decide | omega⟩, ?_⟩, fun q4 => ⟨⟨by first | decide | omega, by first | decide | omega⟩, ⟨by first | decide | omega, by first | decide | omega⟩, ?_⟩⟩⟩⟩⟩
    try (any_goals (exfalso; first | omega | exact absurd trivial (by assumption)))
    rw [e]
    exact K
  | m + 1, i, hi => by
    have hw := hQ.2.1
    obtain ⟨w0, w1, w3, w5, -⟩ := zwo_f hw
    have hN := hQ.2.2.1.2.2.2.1
    have z6 : zLN (33 + 6) = 24 := by decide
    have e1 := hf i (by omega) (by omega)
    have zb := zsm_b (f := fun a => if x ≤ f a then 1 else 0) (k := 1) i (fun j _ _ => by split <;> omega)
    have es : zsm (fun a => if x ≤ f a then 1 else 0) (i + 1) = zsm (fun a => if x ≤ f a then 1 else 0) i + if x ≤ f i then 1 else 0 := rfl
    have next : zJ l G 1 (d + 1) h_W_warmCells k_W_warmCells 115 Q QX 4 [(2, 0), (0, x), (0, zsm (fun a => if x ≤ f a then 1 else 0) (i + 1)), (0, ((i + 1 : Nat) : Int))] [] v 115 := wa_4 hQ hf K m (i + 1) (by omega)
    have ei : ((i + 1 : Nat) : Int) = (i : Int) + 1 := by omega
    rw [ei, es] at next
    refine zgo ck_W_warmCells 300 4 _ _ _ _ rfl (sg_W_warmCells_4 ?_)
    try simp (disch := omega) only [zup_e, zup_ak, zup_j, Int.zero_add, hQ.1, hQ.2.2.2.1.2.2.1, e1]
    refine ⟨by first | decide | omega, by first | decide | omega, by first | decide | omega, ⟨fun q1 => ?_, fun q2 => ⟨by first | decide | omega, by first | decide | omega, by first | decide | omega, ⟨by first | decide | omega, by first | decide | omega⟩, ⟨fun q3 => ⟨⟨by first | decide | omega, by first | decide | omega⟩, ?_⟩, fun q4 => ⟨⟨by first | decide | omega, by first | decide | omega⟩, ⟨by first | decide | omega, by first | decide | omega⟩, ?_⟩⟩⟩⟩⟩
    try (any_goals (exfalso; first | omega | exact absurd trivial (by assumption)))
    · rw [if_neg (by omega), Int.add_zero] at next
      exact next
    · rw [if_pos q4] at next
      exact next
theorem c_W_warmCells {x : Int} {f : Int → Int} (hQ : QC v w W c S) (hf : ∀ a : Int, 0 ≤ a → a < wN W → v (33 + 6) a = f a) (K : Q (sWrm W f x) v) : zC l G 1 (d + 1) h_W_warmCells [(2, 0), (0, x)] v 115 Q := by
  have hN := hQ.2.2.1.2.2.2.1
  refine zC_at ok_W_warmCells ck_W_warmCells rfl rfl (sg_W_warmCells_0 ?_)
  exact wa_4 hQ hf K (wN W).toNat 0 (by omega)
def sAl1 (W : zWl) (f : Int → Int) (s z : Int) : Bool := !(sBt s z) || decide (sWho W (sAsk W z) s ≤ sWrm W f (sAsk W z))
theorem sl_2 {s : Int} {f : Int → Int} {QX : Nat → zH → Prop} (hQ : QC v w W c S) (hs : 0 ≤ s ∧ s < 32) (hf : ∀ a : Int, 0 ≤ a → a < wN W → v (33 + 6) a = f a) (K : Q (if sAll W f s = true then 1 else 0) v) :
    ∀ (m i : Nat), (i : Int) + m = wZ W → zal (sAl1 W f s) i = true → zJ l G 1 (d + 4) h_W_allSleepWarm k_W_allSleepWarm 115 Q QX 2 [(2, 0), (0, s), (0, (i : Int))] [] v 115
  | 0, i, hi, ha => by
    have hw := hQ.2.1
    obtain ⟨w0, w1, w3, w5, -⟩ := zwo_f hw
    have e : i = (wZ W).toNat := by omega
    rw [e] at ha
    have ha : sAll W f s = true := ha
    rw [if_pos ha] at K
    refine zgo ck_W_allSleepWarm 300 2 _ _ _ _ rfl (sg_W_allSleepWarm_2 ?_)
    try simp (disch := omega) only [zup_e, zup_ak, zup_j, Int.zero_add, hQ.1, hQ.2.2.2.1.2.2.2.2.2.1]
    refine ⟨by first | decide | omega, by first | decide | omega, by first | decide | omega, by first | decide | omega, ⟨fun q1 => ⟨by first | decide | omega, ?_⟩, fun q2 => ⟨fun q3 => ⟨⟨by first | decide | omega, by first | decide | omega⟩, ?_⟩, fun q4 => ⟨by first | decide | omega, ?_⟩⟩⟩⟩
    try (any_goals (exfalso; first | omega | exact absurd trivial (by assumption)))
    exact K
  | m + 1, i, hi, ha => by
    have hw := hQ.2.1
    obtain ⟨w0, w1, w3, w5, -⟩ := zwo_f hw
    have hZ := hQ.2.2.1.2.2.2.2.2.2.2.2.1
    have next : sAl1 W f s i = true → zJ l G 1 (d + 4) h_W_allSleepWarm k_W_allSleepWarm 115 Q QX 2 [(2, 0), (0, s), (0, (i : Int) + 1)] [] v 115 := by
      intro h1
      refine sl_2 hQ hs hf K m (i + 1) (by omega) ?_
      show (zal (sAl1 W f s) i && sAl1 W f s i) = true
      rw [ha, h1]
      rfl
    have stop : sAl1 W f s i = false → Q 0 v := by
      intro h1
      have : ¬ sAll W f s = true := by
        intro q
        have q : zal (sAl1 W f s) (wZ W).toNat = true := q
        rw [zal_iff] at q
        have := q i (by omega) (by omega)
        rw [h1] at this
        cases this
      rw [if_neg this] at K
      exact K
    refine zgo ck_W_allSleepWarm 300 2 _ _ _ _ rfl (sg_W_allSleepWarm_2 ?_)
    try simp (disch := omega) only [zup_e, zup_ak, zup_j, Int.zero_add, hQ.1, hQ.2.2.2.1.2.2.2.2.2.1]
    refine ⟨by first | decide | omega, by first | decide | omega, by first | decide | omega, by first | decide | omega, ⟨fun q1 => ⟨by first | decide | omega, ?_⟩, fun q2 => ⟨fun q3 => ⟨⟨by first | decide | omega, by first | decide | omega⟩, ?_⟩, fun q4 => ⟨by first | decide | omega, ?_⟩⟩⟩⟩
    try (any_goals (exfalso; first | omega | exact absurd trivial (by assumption)))
    · refine next ?_
      have : sBt s i = false := by
        rw [← Bool.not_eq_true, sBt_iff]
        exact q3
      unfold sAl1
      rw [this]
      rfl
    · have hb := sBt_iff.mpr q4
      refine c_W_askedBy hQ ⟨by omega, by omega⟩ ?_
      refine ⟨by first | decide | omega, ?_⟩
      try (any_goals (exfalso; first | omega | exact absurd trivial (by assumption)))
      refine c_W_warmCells hQ hf ?_
      refine ⟨by first | decide | omega, ?_⟩
      try (any_goals (exfalso; first | omega | exact absurd trivial (by assumption)))
      refine c_W_askedBy hQ ⟨by omega, by omega⟩ ?_
      refine ⟨by first | decide | omega, ?_⟩
      try (any_goals (exfalso; first | omega | exact absurd trivial (by assumption)))
      refine c_W_sleepersWhoAsk hQ hs ?_
      refine ⟨fun q1 => ⟨⟨by first | decide | omega, by first | decide | omega⟩, ?_⟩, fun q2 => ⟨by first | decide | omega, ?_⟩⟩
      try (any_goals (exfalso; first | omega | exact absurd trivial (by assumption)))
      · refine next ?_
        unfold sAl1
        rw [hb]
        simpa using q1
      · refine stop ?_
        unfold sAl1
        rw [hb]
        simpa using q2
theorem c_W_allSleepWarm {s : Int} {f : Int → Int} (hQ : QC v w W c S) (hs : 0 ≤ s ∧ s < 32) (hf : ∀ a : Int, 0 ≤ a → a < wN W → v (33 + 6) a = f a) (K : Q (if sAll W f s = true then 1 else 0) v) : zC l G 1 (d + 4) h_W_allSleepWarm [(2, 0), (0, s)] v 115 Q := by
  have hZ := hQ.2.2.1.2.2.2.2.2.2.2.2.1
  refine zC_at ok_W_allSleepWarm ck_W_allSleepWarm rfl rfl (sg_W_allSleepWarm_0 ?_)
  exact sl_2 hQ hs hf K (wZ W).toNat 0 (by omega) rfl
theorem mst_b {f : Int → Int} : ∀ n : Nat, 0 ≤ sMst W f n ∧ (n = 0 → sMst W f n = 0) ∧ (n ≠ 0 → sMst W f n < n)
  | 0 => ⟨by show (0 : Int) ≤ 0; omega, fun _ => rfl, fun h => absurd rfl h⟩
  | n + 1 => by
    have h := mst_b (f := f) n
    have e : sMst W f (n + 1) = if sPc (sMst W f n) ≤ sPc n ∧ sAll W f n = true then (n : Int) else sMst W f n := rfl
    rw [e]
    by_cases q : n = 0
    · have := h.2.1 q
      split <;> omega
    · have := h.2.2 q
      split <;> omega
theorem pow5 {n : Nat} (h : n ≤ 5) : 1 ≤ 2 ^ n ∧ 2 ^ n ≤ 32 := by
  have : n = 0 ∨ n = 1 ∨ n = 2 ∨ n = 3 ∨ n = 4 ∨ n = 5 := by omega
  rcases this with rfl | rfl | rfl | rfl | rfl | rfl <;> decide
theorem mo_17 {k : Int} {f : Int → Int} {QX : Nat → zH → Prop} (hQ : QC v w W c S) (hf : ∀ a : Int, 0 ≤ a → a < wN W → v (33 + 6) a = f a)
    (K : Q (if k = 0 then sPc (sMst W f (2 ^ (wZ W).toNat)) else sMst W f (2 ^ (wZ W).toNat)) v) :
    ∀ (m i : Nat), i + m = 2 ^ (wZ W).toNat → 1 ≤ i → zJ l G 1 (d + 5) h_W_most k_W_most 115 Q QX 17 [(2, 0), (0, k), (0, sMst W f i), (0, (i : Int))] [] v 115
  | 0, i, hi, h1 => by
    have hw := hQ.2.1
    obtain ⟨w0, w1, w3, w5, -⟩ := zwo_f hw
    have hZ := hQ.2.2.1.2.2.2.2.2.2.2.2.1
    have p5 := pow5 (n := (wZ W).toNat) (by omega)
    have ez : zshl 1 (wZ W) = ((2 ^ (wZ W).toNat : Nat) : Int) := by
      have := zshl1 (k := (wZ W).toNat) (by omega)
      rw [← this]
      congr 1
      omega
    have e : i = 2 ^ (wZ W).toNat := by omega
    have mb := (mst_b (W := W) (f := f) i).1
    have mb2 := (mst_b (W := W) (f := f) i).2.2 (by omega)
    rw [← e] at K
    refine zgo ck_W_most 300 17 _ _ _ _ rfl (sg_W_most_17 ?_)
    try simp (disch := omega) only [zup_e, zup_ak, zup_j, Int.zero_add, hQ.1, hQ.2.2.2.1.2.2.2.2.2.1, ez]
    refine ⟨by first | decide | omega, by first | decide | omega, by first | decide | omega, by first | decide | omega, ⟨fun q1 => ⟨fun q2 => ?_, fun q3 => ?_⟩, fun q4 => ?_⟩⟩
    try (any_goals (exfalso; first | omega | exact absurd trivial (by assumption)))
    · rw [if_neg q2] at K
      exact K
    · rw [if_pos q3] at K
      exact c_pc (by omega) K
  | m + 1, i, hi, h1 => by
    have hw := hQ.2.1
    obtain ⟨w0, w1, w3, w5, -⟩ := zwo_f hw
    have hZ := hQ.2.2.1.2.2.2.2.2.2.2.2.1
    have p5 := pow5 (n := (wZ W).toNat) (by omega)
    have ez : zshl 1 (wZ W) = ((2 ^ (wZ W).toNat : Nat) : Int) := by
      have := zshl1 (k := (wZ W).toNat) (by omega)
      rw [← this]
      congr 1
      omega
    have mb := (mst_b (W := W) (f := f) i).1
    have mb2 := (mst_b (W := W) (f := f) i).2.2 (by omega)
    have next : zJ l G 1 (d + 5) h_W_most k_W_most 115 Q QX 17 [(2, 0), (0, k), (0, sMst W f (i + 1)), (0, ((i + 1 : Nat) : Int))] [] v 115 := mo_17 hQ hf K m (i + 1) (by omega) (by omega)
    have ei : ((i + 1 : Nat) : Int) = (i : Int) + 1 := by omega
    have es : sMst W f (i + 1) = if sPc (sMst W f i) ≤ sPc i ∧ sAll W f i = true then (i : Int) else sMst W f i := rfl
    rw [ei, es] at next
    refine zgo ck_W_most 300 17 _ _ _ _ rfl (sg_W_most_17 ?_)
    try simp (disch := omega) only [zup_e, zup_ak, zup_j, Int.zero_add, hQ.1, hQ.2.2.2.1.2.2.2.2.2.1, ez]
    refine ⟨by first | decide | omega, by first | decide | omega, by first | decide | omega, by first | decide | omega, ⟨fun q1 => ⟨fun q2 => ?_, fun q3 => ?_⟩, fun q4 => ?_⟩⟩
    try (any_goals (exfalso; first | omega | exact absurd trivial (by assumption)))
    refine c_pc (by omega) ?_
    show _
    refine c_pc (by omega) ?_
    refine ⟨fun q1 => ⟨⟨by first | decide | omega, by first | decide | omega⟩, ?_⟩, fun q2 => ⟨by first | decide | omega, ?_⟩⟩
    try (any_goals (exfalso; first | omega | exact absurd trivial (by assumption)))
    · rw [if_neg (fun r => by have := r.1; omega)] at next
      exact next
    · refine c_W_allSleepWarm hQ (by omega) hf ?_
      by_cases qa : sAll W f i = true
      · rw [if_pos qa]
        rw [if_pos ⟨q2, qa⟩] at next
        refine ⟨fun q1 => ⟨⟨by first | decide | omega, by first | decide | omega⟩, ?_⟩, fun q2 => ⟨⟨by first | decide | omega, by first | decide | omega⟩, ?_⟩⟩
        try (any_goals (exfalso; first | omega | exact absurd trivial (by assumption)))
        exact next
      · rw [if_neg qa]
        rw [if_neg (fun r => qa r.2)] at next
        refine ⟨fun q1 => ⟨⟨by first | decide | omega, by first | decide | omega⟩, ?_⟩, fun q2 => ⟨⟨by first | decide | omega, by first | decide | omega⟩, ?_⟩⟩
        try (any_goals (exfalso; first | omega | exact absurd trivial (by assumption)))
        exact next
theorem mst_1 {f : Int → Int} : sMst W f 1 = 0 := by
  show (if sPc 0 ≤ sPc ((0 : Nat) : Int) ∧ sAll W f ((0 : Nat) : Int) = true then ((0 : Nat) : Int) else 0) = 0
  split <;> rfl
theorem c_W_most {k : Int} (hQ : QC v w W c S) (K : ∀ v' : zH, Fq v v' → QC v' w W c S → Q (aMost W S c k) v') : zC l G 1 (d + 7) h_W_most [(2, 0), (0, k)] v 115 Q := by
  unfold aMost at K
  have hw := hQ.2.1
  have w0 := (zwo_f hw).1
  have hn0 := W_n0 hQ.2.2.1
  have hZ := hQ.2.2.1.2.2.2.2.2.2.2.2.1
  have p5 := pow5 (n := (wZ W).toNat) (by omega)
  refine zC_at ok_W_most ck_W_most rfl rfl (sg_W_most_0 ?_)
  try simp (disch := omega) only [zup_e, zup_ak, zup_j, Int.zero_add, hQ.1, hQ.2.2.2.1.2.2.1]
  refine ⟨by first | decide | omega, by first | decide | omega, by first | decide | omega, ⟨fun q1 => ?_, fun q2 => ?_⟩⟩
  try (any_goals (exfalso; first | omega | exact absurd trivial (by assumption)))
  · rw [if_neg (fun q => by omega)] at K
    exact K _ Fq_rf hQ
  refine c_W_within ?_
  by_cases h3 : 0 ≤ k ∧ k ≤ 1
  rotate_left
  · rw [if_neg h3]
    refine ⟨fun q1 => ⟨by first | decide | omega, ?_⟩, fun q2 => ?_⟩
    try (any_goals (exfalso; first | omega | exact absurd trivial (by assumption)))
    rw [if_neg (fun q => h3 q.2)] at K
    exact K _ Fq_rf hQ
  rw [if_pos h3]
  refine ⟨fun q1 => ⟨by first | decide | omega, ?_⟩, fun q2 => ?_⟩
  try (any_goals (exfalso; first | omega | exact absurd trivial (by assumption)))
  rw [if_pos ⟨by omega, h3⟩] at K
  refine c_W_nightAhead hQ (fun v1 g1 g2 g3 => ?_)
  have := mo_17 (d := d + 2) (l := l) (G := G) (QX := fun _ _ => False) g2 g3 (K v1 g1 g2) (2 ^ (wZ W).toNat - 1) 1 (by omega) (by omega)
  rw [mst_1] at this
  exact this
-- frost
theorem zsm_cut {f : Int → Int} {n : Nat} (h : ∀ i : Int, (n : Int) ≤ i → f i = 0) : ∀ m : Nat, zsm f (n + m) = zsm f n
  | 0 => rfl
  | m + 1 => by
    rw [← Nat.add_assoc, zsm_s, zsm_cut h m, h _ (by omega)]
    omega
theorem fr_32 {n i : Int} {g : Int → Bool} {g2 : Int → Bool} {QX : Nat → zH → Prop} (hW : Wok W) (hi : 0 ≤ i ∧ i ≤ 1000) (hQ : QC v w W c S) (hg : ∀ a : Int, 0 ≤ a → a < wN W → g2 a = (g a || decide (v (33 + 1) a = 0)))
    (K : ∀ t : Nat, t < 2 ^ 24 → (∀ k : Nat, t.testBit k = (decide ((k : Int) < wN W) && g2 k)) → zJ l G 1 (d + 1) h_W_frost k_W_frost 115 Q QX 20 [(2, 0), (0, n), (0, (t : Int)), (0, i + 1), (3, 0)] [] v 115) :
    ∀ (m j t : Nat), (j : Int) + m = wN W → t < 2 ^ 24 → (∀ k : Nat, t.testBit k = (decide ((k : Int) < wN W) && if k < j then g2 k else g k)) →
    zJ l G 1 (d + 1) h_W_frost k_W_frost 115 Q QX 32 [(2, 0), (0, n), (0, (t : Int)), (0, i), (0, (j : Int))] [] v 115
  | 0, j, t, hj, ht, hT => by
    have hw := hQ.2.1
    obtain ⟨w0, w1, w3, w5, -⟩ := zwo_f hw
    refine zgo ck_W_frost 300 32 _ _ _ _ rfl (sg_W_frost_32 ?_)
    try simp (disch := omega) only [zup_e, zup_ak, zup_j, Int.zero_add, hQ.1, hQ.2.2.2.1.2.2.1]
    refine ⟨by first | decide | omega, by first | decide | omega, by first | decide | omega, ⟨fun q1 => ⟨⟨by first | decide | omega, by first | decide | omega⟩, ?_⟩, fun q2 => ⟨by first | decide | omega, by first | decide | omega, by first | decide | omega, ⟨by first | decide | omega, by first | decide | omega⟩, ⟨fun q3 => ⟨⟨by first | decide | omega, by first | decide | omega⟩, ?_⟩, fun q4 => ⟨⟨by first | decide | omega, by first | decide | omega⟩, ?_⟩⟩⟩⟩⟩
    try (any_goals (exfalso; first | omega | exact absurd trivial (by assumption)))
    refine K t ht (fun k => ?_)
    rw [hT k]
    by_cases q : (k : Int) < wN W
    · rw [if_pos (by omega)]
    · rw [decide_eq_false q]
      rfl
  | m + 1, j, t, hj, ht, hT => by
    have hw := hQ.2.1
    obtain ⟨w0, w1, w3, w5, -⟩ := zwo_f hw
    have hN := hW.2.2.2.1
    have z1 : zLN (33 + 1) = 24 := by decide
    have hgj := hg j (by omega) (by omega)
    have hzo := zor_bit (a := t) (j := j) ht (by omega)
    refine zgo ck_W_frost 300 32 _ _ _ _ rfl (sg_W_frost_32 ?_)
    try simp (disch := omega) only [zup_e, zup_ak, zup_j, Int.zero_add, hQ.1, hQ.2.2.2.1.2.2.1, hzo]
    refine ⟨by first | decide | omega, by first | decide | omega, by first | decide | omega, ⟨fun q1 => ⟨⟨by first | decide | omega, by first | decide | omega⟩, ?_⟩, fun q2 => ⟨by first | decide | omega, by first | decide | omega, by first | decide | omega, ⟨by first | decide | omega, by first | decide | omega⟩, ⟨fun q3 => ⟨⟨by first | decide | omega, by first | decide | omega⟩, ?_⟩, fun q4 => ⟨⟨by first | decide | omega, by first | decide | omega⟩, ?_⟩⟩⟩⟩⟩
    try (any_goals (exfalso; first | omega | exact absurd trivial (by assumption)))
    · refine fr_32 hW hi hQ hg K m (j + 1) t (by omega) ht (fun k => ?_)
      rw [hT k]
      by_cases e : k = j
      · subst e
        rw [if_neg (by omega), if_pos (by omega), hgj, decide_eq_false q3, Bool.or_false]
      · by_cases q : k < j
        · rw [if_pos q, if_pos (by omega)]
        · rw [if_neg q, if_neg (by omega)]
    · refine fr_32 hW hi hQ hg K m (j + 1) (t ||| 2 ^ j) (by omega) (or_lt ht (by omega)) (fun k => ?_)
      rw [or_bit, hT k]
      by_cases e : k = j
      · subst e
        rw [if_neg (show ¬ k < k by omega), if_pos (show k < k + 1 by omega), hgj, decide_eq_true q4, decide_eq_true (show (k : Int) < wN W by omega), decide_eq_true (show k = k from rfl)]
        simp
      · rw [decide_eq_false (show ¬ j = k from fun q => e q.symm), Bool.or_false]
        by_cases q : k < j
        · rw [if_pos q, if_pos (by omega)]
        · rw [if_neg q, if_neg (by omega)]
theorem fr_20 {n : Nat} {v0 : zH} {QX : Nat → zH → Prop} (hn : n ≤ 72)
    (K : ∀ v' : zH, Fq v0 v' → QC v' w W c S → Q (zsm (fun a => if sFrz W S c a n = true then 1 else 0) (wN W).toNat) v') :
    ∀ (m i t : Nat) {v : zH}, i + m = n → t < 2 ^ 24 → (∀ k : Nat, t.testBit k = (decide ((k : Int) < wN W) && sFrz W S c k i)) → Fq v0 v → QC v w W c S → CO v 33 W (sSt W (sSn S) (kR S) c i) →
    zJ l G 1 (d + 6) h_W_frost k_W_frost 115 Q QX 20 [(2, 0), (0, (n : Int)), (0, (t : Int)), (0, (i : Int) + 1), (3, 0)] [] v 115
  | 0, i, t, v, hi, ht, hT, hF, hQ, hA => by
    have e : i = n := by omega
    subst e
    have hN := hQ.2.2.1.2.2.2.1
    refine zgo ck_W_frost 300 20 _ _ _ _ rfl (sg_W_frost_20 ?_)
    refine ⟨fun q1 => ?_, fun q2 => ⟨by first | decide | omega, by first | decide | omega, by first | decide | omega, by first | decide | omega, by first | decide | omega, ?_⟩⟩
    try (any_goals (exfalso; first | omega | exact absurd trivial (by assumption)))
    refine c_bitCount ht ?_
    show _
    rw [pc24_sm ht]
    refine zQe (K v hF hQ) ?_
    have e24 : 24 = (wN W).toNat + (24 - (wN W).toNat) := by omega
    rw [e24, zsm_cut (n := (wN W).toNat) (fun j hj => ?_) (24 - (wN W).toNat)]
    · refine zsm_ext (fun j h0 h1 => ?_)
      rw [hT j.toNat]
      have e : ((j.toNat : Nat) : Int) = j := by omega
      rw [e, decide_eq_true (show j < wN W by omega)]
      rfl
    · rw [hT j.toNat]
      have e : ((j.toNat : Nat) : Int) = j := by omega
      rw [e, decide_eq_false (show ¬ j < wN W by omega)]
      rfl
  | m + 1, i, t, v, hi, ht, hT, hF, hQ, hA => by
    have hw := hQ.2.1
    have hW := hQ.2.2.1
    have hN := hW.2.2.2.1
    refine zgo ck_W_frost 300 20 _ _ _ _ rfl (sg_W_frost_20 ?_)
    try simp (disch := omega) only [zup_e, zup_ak, zup_j, Int.zero_add, hQ.1]
    refine ⟨fun q1 => ?_, fun q2 => ⟨by first | decide | omega, by first | decide | omega, by first | decide | omega, by first | decide | omega, by first | decide | omega, ?_⟩⟩
    try (any_goals (exfalso; first | omega | exact absurd trivial (by assumption)))
    refine c_st hQ (Cok_S hQ (by omega)) hA (fun v1 g1 g2 g3 g4 => ?_)
    refine fr_32 (g := fun a => sFrz W S c a i) (g2 := fun a => sFrz W S c a (i + 1)) hW (i := (i : Int) + 1) (by omega) g2 (fun a h1 h2 => ?_) (fun t' ht' hT' => fr_20 hn K m (i + 1) t' (by omega) ht' hT' (Fq_tr hF (Fr_Fq g1)) g2 g3) (wN W).toNat 0 t (by omega) ht (fun k => by rw [if_neg (by omega)]; exact hT k)
    rw [(g3.2.1 a h1 h2).1]
    rfl
theorem c_W_frost {n : Int} (hQ : QC v w W c S) (K : ∀ v' : zH, Fq v v' → QC v' w W c S → Q (aFrost W S c n) v') : zC l G 1 (d + 7) h_W_frost [(2, 0), (0, n)] v 115 Q := by
  unfold aFrost at K
  have hw := hQ.2.1
  have w0 := (zwo_f hw).1
  have hn0 := W_n0 hQ.2.2.1
  refine zC_at ok_W_frost ck_W_frost rfl rfl (sg_W_frost_0 ?_)
  try simp (disch := omega) only [zup_e, zup_ak, zup_j, Int.zero_add, hQ.1, hQ.2.2.2.1.2.2.1]
  refine ⟨by first | decide | omega, by first | decide | omega, by first | decide | omega, ⟨fun q1 => ?_, fun q2 => ?_⟩⟩
  try (any_goals (exfalso; first | omega | exact absurd trivial (by assumption)))
  · rw [if_neg (fun q => by omega)] at K
    exact K _ Fq_rf hQ
  refine c_W_within ?_
  by_cases h2 : 1 ≤ n ∧ n ≤ 72
  rotate_left
  · rw [if_neg h2]
    refine ⟨fun q1 => ⟨by first | decide | omega, by first | decide | omega, by first | decide | omega, ?_⟩, fun q2 => ?_⟩
    try (any_goals (exfalso; first | omega | exact absurd trivial (by assumption)))
    rw [if_neg (fun q => h2 q.2)] at K
    exact K _ Fq_rf hQ
  rw [if_pos h2]
  refine ⟨fun q1 => ⟨by first | decide | omega, by first | decide | omega, by first | decide | omega, ?_⟩, fun q2 => ?_⟩
  try (any_goals (exfalso; first | omega | exact absurd trivial (by assumption)))
  rw [if_pos ⟨by omega, h2⟩] at K
  obtain ⟨m, rfl⟩ : ∃ m : Nat, n = m := ⟨n.toNat, by omega⟩
  rw [Int.toNat_natCast] at K
  refine c_fol hQ (fun v1 g1 g2 g3 => ?_)
  exact fr_20 (by omega) K m 0 0 (by omega) (by decide) (fun k => by show _ = (_ && false); simp) (Fo_Fq g1) g2 g3
end
