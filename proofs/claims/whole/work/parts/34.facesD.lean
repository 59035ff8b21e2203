/-! THE CLASS: touches; a wall laid anew; a cell -/
section
variable {l : Launch} {G : zG} {d : Nat} {v : zH} {Q : Int → zH → Prop} {w : Int} {W : zWl} {c : zCo} {S : zSk} {T : zTo}
theorem tLast_le {k : Int} (h0 : 0 ≤ k) : ∀ n : Nat, k < n → tH T k ≤ fd (fun m k => max m (tH T k)) 0 n
  | 0, h => by omega
  | n + 1, h => by
    rw [fd_s]
    by_cases e : k = n
    · rw [e]
      omega
    · have := tLast_le h0 n (by omega)
      omega
theorem tAl_far {h : Int} {f : Int → Int} (hT : Tok W T) (hh : tLast T < h) : tAl T h f = true := by
  unfold tAl
  rw [zal_iff]
  intro k h0 h1
  have := tLast_le (T := T) h0 (tN T).toNat h1
  unfold tAl1
  have e : ¬ tH T k = h := by
    unfold tLast at hh
    omega
  simp [e]
theorem TS_fr {v v' : zH} (h : ∀ a : Int, 45 ≤ a → a ≤ 48 → v' a = v a) (k : TS v T) : TS v' T := by
  obtain ⟨k1, k2⟩ := k
  refine ⟨by rw [h 45 (by omega) (by omega)]; exact k1, fun k h1 h2 => ?_⟩
  rw [h (45 + 1) (by omega) (by omega), h (45 + 2) (by omega) (by omega), h (45 + 3) (by omega) (by omega)]
  exact k2 k h1 h2
theorem TS_Fq {v v' : zH} (h : Fq v v') (k : TS v T) : TS v' T := TS_fr (fun a h1 h2 => h a (by unfold fK; omega) (by omega) (by omega) (by omega)) k
theorem lk_18 {c1 : zCo} {v0 : zH} {QX : Nat → zH → Prop} (hT : Tok W T) (hc1 : Cok W c1) (hh : cH c1 ≤ 900000) (L : Nat) (hL : tLast T = L)
    (K : ∀ v' : zH, Fq v0 v' → QC v' w W c S → Q (if sLike W S c1 T 49 = true then 1 else 0) v') :
    ∀ (m i : Nat) {v : zH}, i + m = L → Fq v0 v → QC v w W c S → CO v 33 W (sSt W (sSn S) (kR S) c1 i) → TS v T → (∀ h : Nat, h < i → tAl T h (cW (sSt W (sSn S) (kR S) c1 h)) = true) →
    zJ l G 1 (d + 6) h_W_isLikeTouches k_W_isLikeTouches 115 Q QX 18 [(2, 0), (3, 0), (3, 0), (0, (L : Int)), (0, (i : Int))] [] v 115
  | 0, i, v, hi, hF, hQ, hA, hS, hz => by
    have e : i = L := by omega
    subst e
    have K := K v hF hQ
    refine zgo ck_W_isLikeTouches 300 18 _ _ _ _ rfl (sg_W_isLikeTouches_18 ?_)
    try simp (disch := omega) only [zup_e, zup_ak, zup_j, Int.zero_add]
    refine ⟨fun q1 => ⟨by first | decide | omega, by first | decide | omega, by first | decide | omega, by first | decide | omega, ?_⟩, fun q2 => ⟨by first | decide | omega, by first | decide | omega, by first | decide | omega, by first | decide | omega, ?_⟩⟩
    try (any_goals (exfalso; first | omega | exact absurd trivial (by assumption)))
    refine c_To_allowAt hQ.2.2.1 hT hS (by decide) (f := cW (sSt W (sSn S) (kR S) c1 i)) (fun a h1 h2 => (hA.2.1 a h1 h2).1) ?_
    have e : sLike W S c1 T 49 = tAl T i (cW (sSt W (sSn S) (kR S) c1 i)) := by
      rw [Bool.eq_iff_iff]
      unfold sLike
      rw [zal_iff]
      have b := tLast_b hT
      refine ⟨fun q => ?_, fun q h h0 h1 => ?_⟩
      · have := q i (by omega) (by omega)
        rw [Int.toNat_natCast] at this
        exact this
      · obtain ⟨n, rfl⟩ : ∃ n : Nat, h = n := ⟨h.toNat, by omega⟩
        rw [Int.toNat_natCast]
        by_cases u : n < i
        · exact hz n u
        · by_cases e : n = i
          · rw [e]
            exact q
          · exact tAl_far hT (by omega)
    rw [e] at K
    refine ⟨by split <;> omega, K⟩
  | m + 1, i, v, hi, hF, hQ, hA, hS, hz => by
    have hw := hQ.2.1
    have tlb := tLast_b hT
    have hc := Cok_st (sn := sSn S) (rn := kR S) snOk_S hQ.2.2.1 hc1 i (by omega)
    refine zgo ck_W_isLikeTouches 300 18 _ _ _ _ rfl (sg_W_isLikeTouches_18 ?_)
    try simp (disch := omega) only [zup_e, zup_ak, zup_j, Int.zero_add]
    refine ⟨fun q1 => ⟨by first | decide | omega, by first | decide | omega, by first | decide | omega, by first | decide | omega, ?_⟩, fun q2 => ⟨by first | decide | omega, by first | decide | omega, by first | decide | omega, by first | decide | omega, ?_⟩⟩
    try (any_goals (exfalso; first | omega | exact absurd trivial (by assumption)))
    refine c_To_allowAt hQ.2.2.1 hT hS (by decide) (f := cW (sSt W (sSn S) (kR S) c1 i)) (fun a h1 h2 => (hA.2.1 a h1 h2).1) ?_
    by_cases hb : tAl T i (cW (sSt W (sSn S) (kR S) c1 i)) = true
    · rw [if_pos hb]
      try simp (disch := omega) only [zup_e, zup_ak, zup_j, Int.zero_add, hQ.1]
      refine ⟨fun q1 => ⟨by first | decide | omega, by first | decide | omega, by first | decide | omega, by first | decide | omega, by first | decide | omega, ?_⟩, fun q2 => ⟨by first | decide | omega, ?_⟩⟩
      try (any_goals (exfalso; first | omega | exact absurd trivial (by assumption)))
      refine c_st hQ hc hA (fun v1 g1 g2 g3 g4 => ?_)
      refine ⟨⟨by first | decide | omega, by first | decide | omega⟩, ?_⟩
      refine lk_18 hT hc1 hh L hL K m (i + 1) (by omega) (Fq_tr hF (Fr_Fq g1)) g2 g3 (TS_Fq (Fr_Fq g1) hS) (fun h hh => ?_)
      by_cases e : h = i
      · rw [e]
        exact hb
      · exact hz h (by omega)
    · rw [if_neg hb]
      refine ⟨fun q1 => ⟨by first | decide | omega, by first | decide | omega, by first | decide | omega, by first | decide | omega, by first | decide | omega, ?_⟩, fun q2 => ⟨by first | decide | omega, ?_⟩⟩
      try (any_goals (exfalso; first | omega | exact absurd trivial (by assumption)))
      have K := K v hF hQ
      have e : ¬ sLike W S c1 T 49 = true := by
        unfold sLike
        rw [zal_iff]
        intro q
        have b := tLast_b hT
        have := q i (by omega) (by omega)
        rw [Int.toNat_natCast] at this
        exact hb this
      rw [if_neg e] at K
      exact K
theorem c_W_isLikeTouches {a s : Int} (hQ : QC v w W c S) (hT : Tok W T) (hS : TS v T) (ha : 0 ≤ a ∧ a < wN W) (hs : 0 ≤ s ∧ s < wS W) (K : ∀ v' : zH, Fq v v' → QC v' w W c S → Q (if sLike W S (sChg W c a s) T 49 = true then 1 else 0) v') : zC l G 1 (d + 6) h_W_isLikeTouches [(2, 0), (0, a), (0, s)] v 115 Q := by
  have hw := hQ.2.1
  obtain ⟨L, hL⟩ : ∃ n : Nat, tLast T = n := ⟨(tLast T).toNat, by have := tLast_b hT; omega⟩
  refine zC_at ok_W_isLikeTouches ck_W_isLikeTouches rfl rfl (sg_W_isLikeTouches_0 ?_)
  try simp (disch := omega) only [zup_e, zup_ak, zup_j, Int.zero_add]
  refine ⟨by first | decide | omega, by first | decide | omega, ?_⟩
  refine c_To_lastHour hT hS ?_
  rw [hL]
  try simp (disch := omega) only [zup_e, zup_ak, zup_j, Int.zero_add]
  refine ⟨by first | decide | omega, by first | decide | omega, by first | decide | omega, ?_⟩
  refine c_fol hQ (fun v1 g1 g2 g3 => ?_)
  try simp (disch := omega) only [zup_e, zup_ak, zup_j, Int.zero_add, g2.1]
  refine ⟨by first | decide | omega, by first | decide | omega, by first | decide | omega, by first | decide | omega, ?_⟩
  refine c_chg g2 g2.2.2.2.2.1.1 g3 ha hs (fun v2 f1 f2 f3 => ?_)
  have hF : Fq v v2 := Fq_tr (Fo_Fq g1) (Fo_Fq f1)
  exact lk_18 hT (Cok_chg hQ.2.2.1 hQ.2.2.2.2.1.1 hs) hQ.2.2.2.2.1.2 L hL K L 0 (by omega) hF f2 f3 (TS_Fq hF hS) (fun h hh => absurd hh (by omega))
theorem fi_4 {a : Int} {v0 : zH} {QX : Nat → zH → Prop} (hT : Tok W T) (ha : 0 ≤ a ∧ a < wN W) (K : ∀ v' : zH, Fq v0 v' → QC v' w W c S → TS v' T → Q (sFit W S c T a (wS W).toNat) v') :
    ∀ (m i : Nat) {v : zH}, (i : Int) + m = wS W → Fq v0 v → QC v w W c S → TS v T →
    zJ l G 1 (d + 7) h_W_sortsThatFit k_W_sortsThatFit 115 Q QX 4 [(2, 0), (0, a), (0, sFit W S c T a i), (0, (i : Int))] [] v 115
  | 0, i, v, hi, hF, hQ, hS => by
    have hw := hQ.2.1
    obtain ⟨w0, w1, w3, w5, -⟩ := zwo_f hw
    have e : i = (wS W).toNat := by omega
    refine zgo ck_W_sortsThatFit 300 4 _ _ _ _ rfl (sg_W_sortsThatFit_4 ?_)
    try simp (disch := omega) only [zup_e, zup_ak, zup_j, Int.zero_add, hQ.1, hQ.2.2.2.1.2.2.2.1]
    refine ⟨by first | decide | omega, by first | decide | omega, by first | decide | omega, by first | decide | omega, ⟨fun q1 => ?_, fun q2 => ⟨by first | decide | omega, ?_⟩⟩⟩
    try (any_goals (exfalso; first | omega | exact absurd trivial (by assumption)))
    rw [e]
    exact K v hF hQ hS
  | m + 1, i, v, hi, hF, hQ, hS => by
    have hw := hQ.2.1
    obtain ⟨w0, w1, w3, w5, -⟩ := zwo_f hw
    have h4 := hQ.2.2.1.2.2.2.2.2.2.1
    have es : sFit W S c T a (i + 1) = if sLike W S (sChg W c a i) T 49 = true then zor (sFit W S c T a i) (zshl 1 i) else sFit W S c T a i := rfl
    refine zgo ck_W_sortsThatFit 300 4 _ _ _ _ rfl (sg_W_sortsThatFit_4 ?_)
    try simp (disch := omega) only [zup_e, zup_ak, zup_j, Int.zero_add, hQ.1, hQ.2.2.2.1.2.2.2.1]
    refine ⟨by first | decide | omega, by first | decide | omega, by first | decide | omega, by first | decide | omega, ⟨fun q1 => ?_, fun q2 => ⟨by first | decide | omega, ?_⟩⟩⟩
    try (any_goals (exfalso; first | omega | exact absurd trivial (by assumption)))
    refine c_W_isLikeTouches hQ hT hS ha ⟨by omega, by omega⟩ (fun v1 g1 g2 => ?_)
    have next : zJ l G 1 (d + 7) h_W_sortsThatFit k_W_sortsThatFit 115 Q QX 4 [(2, 0), (0, a), (0, sFit W S c T a (i + 1)), (0, ((i + 1 : Nat) : Int))] [] v1 115 := fi_4 hT ha K m (i + 1) (by omega) (Fq_tr hF g1) g2 (TS_Fq g1 hS)
    have ei : ((i + 1 : Nat) : Int) = (i : Int) + 1 := by omega
    rw [ei, es] at next
    by_cases q : sLike W S (sChg W c a i) T 49 = true
    · rw [if_pos q] at next ⊢
      refine ⟨fun q1 => ⟨⟨by first | decide | omega, by first | decide | omega⟩, ?_⟩, fun q2 => ⟨⟨by first | decide | omega, by first | decide | omega⟩, ?_⟩⟩
      try (any_goals (exfalso; first | omega | exact absurd trivial (by assumption)))
      exact next
    · rw [if_neg q] at next ⊢
      refine ⟨fun q1 => ⟨⟨by first | decide | omega, by first | decide | omega⟩, ?_⟩, fun q2 => ⟨⟨by first | decide | omega, by first | decide | omega⟩, ?_⟩⟩
      try (any_goals (exfalso; first | omega | exact absurd trivial (by assumption)))
      exact next
theorem c_W_sortsThatFit {a : Int} (hQ : QC v w W c S) (hT : Tok W T) (hS : TS v T) (ha : 0 ≤ a ∧ a < wN W) (K : ∀ v' : zH, Fq v v' → QC v' w W c S → TS v' T → Q (sFit W S c T a (wS W).toNat) v') : zC l G 1 (d + 7) h_W_sortsThatFit [(2, 0), (0, a)] v 115 Q := by
  have h4 := hQ.2.2.1.2.2.2.2.2.2.1
  refine zC_at ok_W_sortsThatFit ck_W_sortsThatFit rfl rfl (sg_W_sortsThatFit_0 ?_)
  exact fi_4 hT ha K (wS W).toNat 0 (by omega) Fq_rf hQ hS
theorem c_W_fits {a : Int} (hQ : QC v w W c S) (hT : Tok W T) (hS : TS v T) (K : ∀ v' : zH, Fq v v' → QC v' w W c S → Q (aFits W S c T a) v') : zC l G 1 (d + 8) h_W_fits [(2, 0), (0, a)] v 115 Q := by
  unfold aFits at K
  have hw := hQ.2.1
  have w0 := (zwo_f hw).1
  have hb := fun h => ix_b (a := a) hQ.2.2.1 h
  refine zC_at ok_W_fits ck_W_fits rfl rfl (sg_W_fits_0 ?_)
  try simp (disch := omega) only [zup_e, zup_ak, zup_j, Int.zero_add, hQ.1]
  refine ⟨by first | decide | omega, by first | decide | omega, by first | decide | omega, ?_⟩
  try (any_goals (exfalso; first | omega | exact absurd trivial (by assumption)))
  refine c_ix hQ ?_
  by_cases h1 : isc (wR W) (wC W) a = true
  rotate_left
  · rw [if_neg h1]
    refine ⟨fun q1 => ⟨by first | decide | omega, ?_⟩, fun q2 => ?_⟩
    try (any_goals (exfalso; first | omega | exact absurd trivial (by assumption)))
    rw [if_neg (fun q => h1 q)] at K
    exact K _ Fq_rf hQ
  rw [if_pos h1]
  have hb := hb h1
  refine ⟨fun q1 => ⟨by first | decide | omega, ?_⟩, fun q2 => ?_⟩
  try (any_goals (exfalso; first | omega | exact absurd trivial (by assumption)))
  rw [if_pos h1] at K
  exact c_W_sortsThatFit hQ hT hS ⟨hb.1, hb.2.1⟩ (fun v1 g1 g2 _ => K v1 g1 g2)
-- trials
theorem c_W_trialAt {s h b : Int} (hs : 0 ≤ s ∧ s < 4) (hh : 0 ≤ h ∧ h ≤ 24) (hb : 0 ≤ b ∧ b < 24) (K : Q ((s * 25 + h) * 24 + b) v) : zC l G 1 (d + 1) h_W_trialAt [(0, s), (0, h), (0, b)] v 115 Q := by
  refine zC_at ok_W_trialAt ck_W_trialAt rfl rfl (sg_W_trialAt_0 ?_)
  refine ⟨⟨by first | decide | omega, by first | decide | omega⟩, ⟨by first | decide | omega, by first | decide | omega⟩, ⟨by first | decide | omega, by first | decide | omega⟩, ⟨by first | decide | omega, by first | decide | omega⟩, ?_⟩
  exact K
theorem to_28 {s n h : Int} {v0 : zH} {QX : Nat → zH → Prop} {f : Int → Int} (hW : Wok W) (hs : 0 ≤ s ∧ s < 4) (hh : 0 ≤ h ∧ h ≤ 24) (hf : ∀ a : Int, 0 ≤ a → a < wN W → v0 (33 + 1) a = f a)
    (K : ∀ v' : zH, (∀ b : Int, b ≠ 49 → v' b = v0 b) → (∀ i : Int, ¬ ((s * 25 + h) * 24 ≤ i ∧ i < (s * 25 + h) * 24 + 24) → v' 49 i = v0 49 i) → (∀ a : Int, 0 ≤ a → a < wN W → v' 49 ((s * 25 + h) * 24 + a) = f a) → QC v' w W c S → zJ l G 1 (d + 6) h_W_tryOut k_W_tryOut 115 Q QX 14 [(2, 0), (3, 0), (0, s), (0, n), (0, h + 1), (3, 0)] [] v' 115) :
    ∀ (m : Nat) {i : Int} {v : zH}, 0 ≤ i → i + m = wN W → QC v w W c S → (∀ b : Int, b ≠ 49 → v b = v0 b) → (∀ i : Int, ¬ ((s * 25 + h) * 24 ≤ i ∧ i < (s * 25 + h) * 24 + 24) → v 49 i = v0 49 i) → (∀ a : Int, 0 ≤ a → a < i → v 49 ((s * 25 + h) * 24 + a) = f a) →
    zJ l G 1 (d + 6) h_W_tryOut k_W_tryOut 115 Q QX 28 [(2, 0), (3, 0), (0, s), (0, n), (0, h), (0, i)] [] v 115
  | 0, i, v, h0, hi, hQ, hv, ho, hz => by
    have hw := hQ.2.1
    have w0 := (zwo_f hw).1
    refine zgo ck_W_tryOut 300 28 _ _ _ _ rfl (sg_W_tryOut_28 ?_)
    try simp (disch := omega) only [zup_e, zup_ak, zup_j, Int.zero_add, hQ.1, hQ.2.2.2.1.2.2.1]
    refine ⟨by first | decide | omega, by first | decide | omega, by first | decide | omega, ⟨fun q1 => ⟨⟨by first | decide | omega, by first | decide | omega⟩, ?_⟩, fun q2 => ⟨by first | decide | omega, ?_⟩⟩⟩
    try (any_goals (exfalso; first | omega | exact absurd trivial (by assumption)))
    exact K v hv ho (fun a h1 h2 => hz a h1 (by omega)) hQ
  | m + 1, i, v, h0, hi, hQ, hv, ho, hz => by
    have hw := hQ.2.1
    have w0 := (zwo_f hw).1
    have hN := hW.2.2.2.1
    have z49 : zLN 49 = 2400 := by decide
    have z1 : zLN (33 + 1) = 24 := by decide
    have e1 : v (33 + 1) i = f i := by rw [hv _ (by omega)]; exact hf i h0 (by omega)
    refine zgo ck_W_tryOut 300 28 _ _ _ _ rfl (sg_W_tryOut_28 ?_)
    try simp (disch := omega) only [zup_e, zup_ak, zup_j, Int.zero_add, hQ.1, hQ.2.2.2.1.2.2.1]
    refine ⟨by first | decide | omega, by first | decide | omega, by first | decide | omega, ⟨fun q1 => ⟨⟨by first | decide | omega, by first | decide | omega⟩, ?_⟩, fun q2 => ⟨by first | decide | omega, ?_⟩⟩⟩
    try (any_goals (exfalso; first | omega | exact absurd trivial (by assumption)))
    refine c_W_trialAt hs hh (by omega) ?_
    try simp (disch := omega) only [zup_e, zup_ak, zup_j, Int.zero_add, e1]
    refine ⟨by first | decide | omega, by first | decide | omega, by first | decide | omega, ⟨by first | decide | omega, by first | decide | omega⟩, by first | decide | omega, ⟨by first | decide | omega, by first | decide | omega⟩, ⟨by first | decide | omega, by first | decide | omega⟩, ?_⟩
    have hF : Fq v (zupd v 49 ((s * 25 + h) * 24 + i) (f i)) := fun b _ _ q _ => zup_a q
    refine to_28 hW hs hh hf K m (by omega) (by omega) (QC_fr hF (SK_fk hQ.2.2.2.2.2.2.1 (fun b q1 q2 => zup_a (by omega)) hQ.2.2.2.2.2.2.2) hQ) (fun b q => (zup_a q).trans (hv b q)) (fun t q => ?_) (fun a q1 q2 => ?_)
    · rw [zup_j (by omega)]
      exact ho t q
    · by_cases e : a = i
      · subst e
        rw [zup_s]
      · rw [zup_j (by omega)]
        exact hz a q1 (by omega)
theorem to_14 {s : Int} {n : Nat} {c1 : zCo} {v0 : zH} {QX : Nat → zH → Prop} (hs : 0 ≤ s ∧ s < 4) (hn : n ≤ 24) (hc1 : Cok W c1) (hh : cH c1 ≤ 900000)
    (K : ∀ v' : zH, Fq v0 v' → QC v' w W c S → (∀ i : Int, ¬ (s * 600 ≤ i ∧ i < s * 600 + 600) → v' 49 i = v0 49 i) → (∀ h : Nat, h ≤ n → ∀ a : Int, 0 ≤ a → a < wN W → v' 49 ((s * 25 + h) * 24 + a) = cW (sSt W (sSn S) (kR S) c1 h) a) → Q 0 v') :
    ∀ (m i : Nat) {v : zH}, i + m = n + 1 → Fq v0 v → QC v w W c S → CO v 33 W (sSt W (sSn S) (kR S) c1 (i - 1)) → (∀ i : Int, ¬ (s * 600 ≤ i ∧ i < s * 600 + 600) → v 49 i = v0 49 i) → (∀ h : Nat, h < i → ∀ a : Int, 0 ≤ a → a < wN W → v 49 ((s * 25 + h) * 24 + a) = cW (sSt W (sSn S) (kR S) c1 h) a) →
    zJ l G 1 (d + 6) h_W_tryOut k_W_tryOut 115 Q QX 14 [(2, 0), (3, 0), (0, s), (0, (n : Int)), (0, (i : Int)), (3, 0)] [] v 115
  | 0, i, v, hi, hF, hQ, hA, ho, hz => by
    refine zgo ck_W_tryOut 300 14 _ _ _ _ rfl (sg_W_tryOut_14 ?_)
    refine ⟨fun q1 => ?_, fun q2 => ⟨fun q3 => ?_, fun q4 => ⟨by first | decide | omega, by first | decide | omega, by first | decide | omega, by first | decide | omega, by first | decide | omega, ?_⟩⟩⟩
    try (any_goals (exfalso; first | omega | exact absurd trivial (by assumption)))
    exact K v hF hQ ho (fun h hh => hz h (by omega))
  | m + 1, i, v, hi, hF, hQ, hA, ho, hz => by
    have hw := hQ.2.1
    have hW := hQ.2.2.1
    have hN := hW.2.2.2.1
    have fin : ∀ v1 : zH, Fq v v1 → v1 49 = v 49 → QC v1 w W c S → CO v1 33 W (sSt W (sSn S) (kR S) c1 i) → zJ l G 1 (d + 6) h_W_tryOut k_W_tryOut 115 Q QX 28 [(2, 0), (3, 0), (0, s), (0, (n : Int)), (0, (i : Int)), (0, 0)] [] v1 115 := by
      intro v1 g1 g2 g3 g4
      refine to_28 (f := cW (sSt W (sSn S) (kR S) c1 i)) hW hs (by omega) (fun a h1 h2 => (g4.2.1 a h1 h2).1) (fun v2 f1 f2 f3 f4 => ?_) (wN W).toNat (by omega) (by omega) g3 (fun _ _ => rfl) (fun _ _ => rfl) (fun a h1 h2 => absurd h1 (by omega))
      refine to_14 hs hn hc1 hh K m (i + 1) (by omega) (Fq_tr hF (Fq_tr g1 (fun b _ _ q _ => f1 b q))) f4 (CO_fr (fun a q => f1 a (by omega)) g4) (fun t q => ?_) (fun h hh a h1 h2 => ?_)
      · rw [f2 t (by omega), g2]
        exact ho t q
      · by_cases e : h = i
        · subst e
          exact f3 a h1 h2
        · rw [f2 _ (by omega), g2]
          exact hz h (by omega) a h1 h2
    refine zgo ck_W_tryOut 300 14 _ _ _ _ rfl (sg_W_tryOut_14 ?_)
    try simp (disch := omega) only [zup_e, zup_ak, zup_j, Int.zero_add, hQ.1]
    refine ⟨fun q1 => ?_, fun q2 => ⟨fun q3 => ?_, fun q4 => ⟨by first | decide | omega, by first | decide | omega, by first | decide | omega, by first | decide | omega, by first | decide | omega, ?_⟩⟩⟩
    try (any_goals (exfalso; first | omega | exact absurd trivial (by assumption)))
    · have e : i = 0 := by omega
      subst e
      exact fin v Fq_rf rfl hQ hA
    · refine c_st hQ (Cok_st (sn := sSn S) (rn := kR S) snOk_S hW hc1 (i - 1) (by omega)) hA (fun v1 g1 g2 g3 g4 => ?_)
      refine fin v1 (Fr_Fq g1) (g1 49 (by unfold fK; omega) (by omega) (by omega) (by omega) (by omega)) g2 ?_
      have e : i = (i - 1) + 1 := by omega
      rw [e]
      exact g3
theorem c_W_tryOut {a s : Int} {n : Nat} (hn : n ≤ 24) (hQ : QC v w W c S) (ha : 0 ≤ a ∧ a < wN W) (hs : 0 ≤ s ∧ s < wS W)
    (K : ∀ v' : zH, Fq v v' → QC v' w W c S → (∀ i : Int, ¬ (s * 600 ≤ i ∧ i < s * 600 + 600) → v' 49 i = v 49 i) → (∀ h : Nat, h ≤ n → ∀ b : Int, 0 ≤ b → b < wN W → v' 49 ((s * 25 + h) * 24 + b) = sTry W S c a s h b) → Q 0 v') : zC l G 1 (d + 6) h_W_tryOut [(2, 0), (0, a), (0, s), (0, (n : Int))] v 115 Q := by
  have hw := hQ.2.1
  have h4 := hQ.2.2.1.2.2.2.2.2.2.1
  refine zC_at ok_W_tryOut ck_W_tryOut rfl rfl (sg_W_tryOut_0 ?_)
  try simp (disch := omega) only [zup_e, zup_ak, zup_j, Int.zero_add]
  refine ⟨by first | decide | omega, by first | decide | omega, by first | decide | omega, ?_⟩
  refine c_fol hQ (fun v1 g1 g2 g3 => ?_)
  try simp (disch := omega) only [zup_e, zup_ak, zup_j, Int.zero_add, g2.1]
  refine ⟨by first | decide | omega, by first | decide | omega, by first | decide | omega, by first | decide | omega, ?_⟩
  refine c_chg g2 g2.2.2.2.2.1.1 g3 ha hs (fun v2 f1 f2 f3 => ?_)
  have hF : Fq v v2 := Fq_tr (Fo_Fq g1) (Fo_Fq f1)
  have e49 : v2 49 = v 49 := by rw [f1 49 (by omega), g1 49 (by omega)]
  refine to_14 (by omega) hn (Cok_chg hQ.2.2.1 hQ.2.2.2.2.1.1 hs) hQ.2.2.2.2.1.2 (fun v3 u1 u2 u3 u4 => K v3 u1 u2 (fun i q => u3 i q) (fun h hh b h1 h2 => ?_)) (n + 1) 0 (by omega) hF f2 f3 (fun _ _ => by rw [e49]) (fun h hh => absurd hh (by omega))
  rw [u4 h hh b h1 h2]
  show _ = cW (sSt W (sSn S) (kR S) (sChg W c a s) (h : Int).toNat) b
  rw [Int.toNat_natCast]
-- how many unlike warmths
def TR (v : zH) (W : zWl) (S : zSk) (c : zCo) (a x n m : Int) : Prop := ∀ s h b : Int, 0 ≤ s → s < m → sBt x s = true → 0 ≤ h → h ≤ n → 0 ≤ b → b < wN W → v 49 ((s * 25 + h) * 24 + b) = sTry W S c a s h b
theorem sBt_iff {x k : Int} : sBt x k = true ↔ zand (zshr x k) 1 = 1 := by unfold sBt; simp
theorem un_23 {a x n h b : Int} {s : Nat} {y : Int} {QX : Nat → zH → Prop} (hQ : QC v w W c S) (hR : TR v W S c a x n (wS W)) (hh : 0 ≤ h ∧ h ≤ n) (hn : n ≤ 24) (hb : 0 ≤ b ∧ b < wN W) (hs : (s : Int) < wS W) (hy : 0 ≤ y ∧ y ≤ 100)
    (K : zJ l G 1 (d + 2) h_W_unlikeWarmths k_W_unlikeWarmths 115 Q QX 4 [(2, 0), (0, x), (0, h), (0, b), (0, if sNew W S c a x h b s s = true then y + 1 else y), (0, (s : Int) + 1), (3, 0), (3, 0)] [] v 115) :
    ∀ (m t : Nat), t + m = s → zJ l G 1 (d + 2) h_W_unlikeWarmths k_W_unlikeWarmths 115 Q QX 23 [(2, 0), (0, x), (0, h), (0, b), (0, y), (0, (s : Int)), (0, if sNew W S c a x h b s t = true then 1 else 0), (0, (t : Int))] [] v 115
  | 0, t, ht => by
    have h4 := hQ.2.2.1.2.2.2.2.2.2.1
    have e : t = s := by omega
    subst e
    by_cases q : sNew W S c a x h b t t = true
    · rw [if_pos q] at K ⊢
      refine zgo ck_W_unlikeWarmths 300 23 _ _ _ _ rfl (sg_W_unlikeWarmths_23 ?_)
      refine ⟨fun q1 => ⟨fun q2 => ⟨⟨by first | decide | omega, by first | decide | omega⟩, ?_⟩, fun q3 => ⟨⟨by first | decide | omega, by first | decide | omega⟩, ⟨by first | decide | omega, by first | decide | omega⟩, ?_⟩⟩, fun q4 => ⟨fun q5 => ⟨⟨by first | decide | omega, by first | decide | omega⟩, ?_⟩, fun q6 => ⟨by first | decide | omega, ?_⟩⟩⟩
      try (any_goals (exfalso; first | omega | exact absurd trivial (by assumption)))
      exact K
    · rw [if_neg q] at K ⊢
      refine zgo ck_W_unlikeWarmths 300 23 _ _ _ _ rfl (sg_W_unlikeWarmths_23 ?_)
      refine ⟨fun q1 => ⟨fun q2 => ⟨⟨by first | decide | omega, by first | decide | omega⟩, ?_⟩, fun q3 => ⟨⟨by first | decide | omega, by first | decide | omega⟩, ⟨by first | decide | omega, by first | decide | omega⟩, ?_⟩⟩, fun q4 => ⟨fun q5 => ⟨⟨by first | decide | omega, by first | decide | omega⟩, ?_⟩, fun q6 => ⟨by first | decide | omega, ?_⟩⟩⟩
      try (any_goals (exfalso; first | omega | exact absurd trivial (by assumption)))
      exact K
  | m + 1, t, ht => by
    have hw := hQ.2.1
    have h4 := hQ.2.2.1.2.2.2.2.2.2.1
    have hN := hQ.2.2.1.2.2.2.1
    have z49 : zLN 49 = 2400 := by decide
    have es : sNew W S c a x h b s (t + 1) = if sBt x t = true ∧ sTry W S c a t h b = sTry W S c a s h b then false else sNew W S c a x h b s t := rfl
    have next : zJ l G 1 (d + 2) h_W_unlikeWarmths k_W_unlikeWarmths 115 Q QX 23 [(2, 0), (0, x), (0, h), (0, b), (0, y), (0, (s : Int)), (0, if sNew W S c a x h b s (t + 1) = true then 1 else 0), (0, ((t + 1 : Nat) : Int))] [] v 115 := un_23 hQ hR hh hn hb hs hy K m (t + 1) (by omega)
    have ei : ((t + 1 : Nat) : Int) = (t : Int) + 1 := by omega
    rw [ei, es] at next
    have neg : ¬ (sBt x t = true ∧ sTry W S c a t h b = sTry W S c a s h b) → (if sBt x t = true ∧ sTry W S c a t h b = sTry W S c a s h b then false else sNew W S c a x h b s t) = sNew W S c a x h b s t := fun q => if_neg q
    have pos : (sBt x t = true ∧ sTry W S c a t h b = sTry W S c a s h b) → (if sBt x t = true ∧ sTry W S c a t h b = sTry W S c a s h b then false else sNew W S c a x h b s t) = false := fun q => if_pos q
    have low : sBt x s = false → ∀ t : Nat, sNew W S c a x h b s t = false := by
      intro h0 t
      induction t with
      | zero => exact h0
      | succ t ih =>
        show (if sBt x t = true ∧ sTry W S c a t h b = sTry W S c a s h b then false else sNew W S c a x h b s t) = false
        rw [ih]
        split <;> rfl
    refine zgo ck_W_unlikeWarmths 300 23 _ _ _ _ rfl (sg_W_unlikeWarmths_23 ?_)
    refine ⟨fun q1 => ⟨fun q2 => ⟨⟨by first | decide | omega, by first | decide | omega⟩, ?_⟩, fun q3 => ⟨⟨by first | decide | omega, by first | decide | omega⟩, ⟨by first | decide | omega, by first | decide | omega⟩, ?_⟩⟩, fun q4 => ⟨fun q5 => ⟨⟨by first | decide | omega, by first | decide | omega⟩, ?_⟩, fun q6 => ⟨by first | decide | omega, ?_⟩⟩⟩
    try (any_goals (exfalso; first | omega | exact absurd trivial (by assumption)))
    · rw [neg (fun q => q5 (sBt_iff.mp q.1))] at next
      exact next
    · have b1 := sBt_iff.mpr q6
      refine c_W_trialAt ⟨by omega, by omega⟩ (by omega) (by omega) ?_
      try simp (disch := omega) only [zup_e, zup_ak, zup_j, Int.zero_add]
      refine ⟨by first | decide | omega, ⟨by first | decide | omega, by first | decide | omega⟩, by first | decide | omega, ?_⟩
      try (any_goals (exfalso; first | omega | exact absurd trivial (by assumption)))
      refine c_W_trialAt ⟨by omega, by omega⟩ (by omega) (by omega) ?_
      show _
      have e1 := hR t h b (by omega) (by omega) b1 hh.1 hh.2 hb.1 hb.2
      by_cases b2 : sBt x s = true
      · have e2 := hR s h b (by omega) (by omega) b2 hh.1 hh.2 hb.1 hb.2
        simp only [Int.zero_add, e1, e2]
        refine ⟨by first | decide | omega, ⟨by first | decide | omega, by first | decide | omega⟩, ⟨fun q1 => ⟨⟨by first | decide | omega, by first | decide | omega⟩, ?_⟩, fun q2 => ⟨⟨by first | decide | omega, by first | decide | omega⟩, ?_⟩⟩⟩
        try (any_goals (exfalso; first | omega | exact absurd trivial (by assumption)))
        · rw [neg (fun q => q1 q.2)] at next
          exact next
        · rw [pos ⟨b1, q2⟩] at next
          exact next
      · have b2 : sBt x s = false := by simpa using b2
        have e3 := low b2 t
        have e4 : (if sBt x t = true ∧ sTry W S c a t h b = sTry W S c a s h b then false else sNew W S c a x h b s t) = false := by
          rw [e3]
          split <;> rfl
        rw [e4] at next
        rw [e3]
        try simp only [Int.zero_add]
        refine ⟨by first | decide | omega, ⟨by first | decide | omega, by first | decide | omega⟩, ⟨fun q1 => ⟨⟨by first | decide | omega, by first | decide | omega⟩, ?_⟩, fun q2 => ⟨⟨by first | decide | omega, by first | decide | omega⟩, ?_⟩⟩⟩
        try (any_goals (exfalso; first | omega | exact absurd trivial (by assumption)))
        · exact next
        · exact next
theorem unl_b {a x h b : Int} : ∀ n : Nat, 0 ≤ sUnl W S c a x h b n ∧ sUnl W S c a x h b n ≤ n
  | 0 => by show (0 : Int) ≤ 0 ∧ (0 : Int) ≤ 0; omega
  | n + 1 => by
    have ih : 0 ≤ sUnl W S c a x h b n ∧ sUnl W S c a x h b n ≤ n := unl_b n
    have e : sUnl W S c a x h b (n + 1) = if sNew W S c a x h b n (n : Int).toNat = true then sUnl W S c a x h b n + 1 else sUnl W S c a x h b n := rfl
    rw [e]
    split <;> omega
theorem un_4 {a x n h b : Int} {QX : Nat → zH → Prop} (hQ : QC v w W c S) (hR : TR v W S c a x n (wS W)) (hh : 0 ≤ h ∧ h ≤ n) (hn : n ≤ 24) (hb : 0 ≤ b ∧ b < wN W) (K : Q (sUnl W S c a x h b (wS W).toNat) v) :
    ∀ (m s : Nat), (s : Int) + m = wS W → zJ l G 1 (d + 2) h_W_unlikeWarmths k_W_unlikeWarmths 115 Q QX 4 [(2, 0), (0, x), (0, h), (0, b), (0, sUnl W S c a x h b s), (0, (s : Int)), (3, 0), (3, 0)] [] v 115
  | 0, s, hs => by
    have hw := hQ.2.1
    obtain ⟨w0, w1, w3, w5, -⟩ := zwo_f hw
    have e : s = (wS W).toNat := by omega
    refine zgo ck_W_unlikeWarmths 300 4 _ _ _ _ rfl (sg_W_unlikeWarmths_4 ?_)
    try simp (disch := omega) only [zup_e, zup_ak, zup_j, Int.zero_add, hQ.1, hQ.2.2.2.1.2.2.2.1]
    refine ⟨by first | decide | omega, by first | decide | omega, by first | decide | omega, by first | decide | omega, ⟨fun q1 => ?_, fun q2 => ⟨fun q3 => ?_, fun q4 => ?_⟩⟩⟩
    try (any_goals (exfalso; first | omega | exact absurd trivial (by assumption)))
    rw [e]
    exact K
  | m + 1, s, hs => by
    have hw := hQ.2.1
    obtain ⟨w0, w1, w3, w5, -⟩ := zwo_f hw
    have h4 := hQ.2.2.1.2.2.2.2.2.2.1
    have ub := unl_b (W := W) (S := S) (c := c) (a := a) (x := x) (h := h) (b := b) s
    have next : zJ l G 1 (d + 2) h_W_unlikeWarmths k_W_unlikeWarmths 115 Q QX 4 [(2, 0), (0, x), (0, h), (0, b), (0, sUnl W S c a x h b (s + 1)), (0, ((s + 1 : Nat) : Int)), (3, 0), (3, 0)] [] v 115 := un_4 hQ hR hh hn hb K m (s + 1) (by omega)
    have ei : ((s + 1 : Nat) : Int) = (s : Int) + 1 := by omega
    have es : sUnl W S c a x h b (s + 1) = if sNew W S c a x h b s (s : Int).toNat = true then sUnl W S c a x h b s + 1 else sUnl W S c a x h b s := rfl
    rw [Int.toNat_natCast] at es
    rw [ei, es] at next
    have go := un_23 (y := sUnl W S c a x h b s) hQ hR hh hn hb (by omega) (by omega) next s 0 (by omega)
    have e0 : sNew W S c a x h b s 0 = sBt x s := rfl
    rw [e0] at go
    refine zgo ck_W_unlikeWarmths 300 4 _ _ _ _ rfl (sg_W_unlikeWarmths_4 ?_)
    try simp (disch := omega) only [zup_e, zup_ak, zup_j, Int.zero_add, hQ.1, hQ.2.2.2.1.2.2.2.1]
    refine ⟨by first | decide | omega, by first | decide | omega, by first | decide | omega, by first | decide | omega, ⟨fun q1 => ?_, fun q2 => ⟨fun q3 => ?_, fun q4 => ?_⟩⟩⟩
    try (any_goals (exfalso; first | omega | exact absurd trivial (by assumption)))
    · rw [if_neg (fun q => q3 (sBt_iff.mp q))] at go
      exact go
    · rw [if_pos (sBt_iff.mpr q4)] at go
      exact go
theorem c_W_unlikeWarmths {a x n h b : Int} (hQ : QC v w W c S) (hR : TR v W S c a x n (wS W)) (hh : 0 ≤ h ∧ h ≤ n) (hn : n ≤ 24) (hb : 0 ≤ b ∧ b < wN W) (K : Q (sUnl W S c a x h b (wS W).toNat) v) : zC l G 1 (d + 2) h_W_unlikeWarmths [(2, 0), (0, x), (0, h), (0, b)] v 115 Q := by
  have h4 := hQ.2.2.1.2.2.2.2.2.2.1
  refine zC_at ok_W_unlikeWarmths ck_W_unlikeWarmths rfl rfl (sg_W_unlikeWarmths_0 ?_)
  exact un_4 hQ hR hh hn hb K (wS W).toNat 0 (by omega)
theorem tc_61 {a x k h : Int} {n : Nat} {p : Int × Int} {QX : Nat → zH → Prop} (hQ : QC v w W c S) (hR : TR v W S c a x n (wS W)) (hh : 0 ≤ h ∧ h ≤ n) (hn : n ≤ 24)
    (K : zJ l G 1 (d + 7) h_W_touch k_W_touch 115 Q QX 56 [(2, 0), (3, 0), (0, (n : Int)), (0, k), (3, 0), (0, x), (0, (sTc2 W S c a x h p (wN W).toNat).1), (0, (sTc2 W S c a x h p (wN W).toNat).2), (0, h + 1), (3, 0), (3, 0)] [] v 115) :
    ∀ (m b : Nat), (b : Int) + m = wN W → zJ l G 1 (d + 7) h_W_touch k_W_touch 115 Q QX 61 [(2, 0), (3, 0), (0, (n : Int)), (0, k), (3, 0), (0, x), (0, (sTc2 W S c a x h p b).1), (0, (sTc2 W S c a x h p b).2), (0, h), (0, (b : Int)), (3, 0)] [] v 115
  | 0, b, hb => by
    have hw := hQ.2.1
    obtain ⟨w0, w1, w3, w5, -⟩ := zwo_f hw
    have e : b = (wN W).toNat := by omega
    refine zgo ck_W_touch 300 61 _ _ _ _ rfl (sg_W_touch_61 ?_)
    try simp (disch := omega) only [zup_e, zup_ak, zup_j, Int.zero_add, hQ.1, hQ.2.2.2.1.2.2.1]
    refine ⟨by first | decide | omega, by first | decide | omega, by first | decide | omega, ⟨fun q1 => ⟨⟨by first | decide | omega, by first | decide | omega⟩, ?_⟩, fun q2 => ⟨by first | decide | omega, ?_⟩⟩⟩
    try (any_goals (exfalso; first | omega | exact absurd trivial (by assumption)))
    rw [e]
    exact K
  | m + 1, b, hb => by
    have hw := hQ.2.1
    obtain ⟨w0, w1, w3, w5, -⟩ := zwo_f hw
    have hN := hQ.2.2.1.2.2.2.1
    have nb := nm_b hQ.2.2.1 (a := b) (by omega)
    have next : zJ l G 1 (d + 7) h_W_touch k_W_touch 115 Q QX 61 [(2, 0), (3, 0), (0, (n : Int)), (0, k), (3, 0), (0, x), (0, (sTc2 W S c a x h p (b + 1)).1), (0, (sTc2 W S c a x h p (b + 1)).2), (0, h), (0, ((b + 1 : Nat) : Int)), (3, 0)] [] v 115 := tc_61 hQ hR hh hn K m (b + 1) (by omega)
    have ei : ((b + 1 : Nat) : Int) = (b : Int) + 1 := by omega
    have es : sTc2 W S c a x h p (b + 1) = if (sTc2 W S c a x h p b).2 < sUnl W S c a x h b (wS W).toNat then (100 * h + nmi (wC W) b, sUnl W S c a x h b (wS W).toNat) else sTc2 W S c a x h p b := rfl
    rw [ei, es] at next
    refine zgo ck_W_touch 300 61 _ _ _ _ rfl (sg_W_touch_61 ?_)
    try simp (disch := omega) only [zup_e, zup_ak, zup_j, Int.zero_add, hQ.1, hQ.2.2.2.1.2.2.1]
    refine ⟨by first | decide | omega, by first | decide | omega, by first | decide | omega, ⟨fun q1 => ⟨⟨by first | decide | omega, by first | decide | omega⟩, ?_⟩, fun q2 => ⟨by first | decide | omega, ?_⟩⟩⟩
    try (any_goals (exfalso; first | omega | exact absurd trivial (by assumption)))
    refine c_W_unlikeWarmths hQ hR hh (by omega) ⟨by omega, by omega⟩ ?_
    try simp (disch := omega) only [zup_e, zup_ak, zup_j, Int.zero_add, hQ.1]
    refine ⟨fun q1 => ⟨⟨by first | decide | omega, by first | decide | omega⟩, ?_⟩, fun q2 => ⟨⟨by first | decide | omega, by first | decide | omega⟩, by first | decide | omega, by first | decide | omega, by first | decide | omega, ?_⟩⟩
    try (any_goals (exfalso; first | omega | exact absurd trivial (by assumption)))
    · rw [if_neg (by omega)] at next
      exact next
    · refine c_nm hQ (by omega) ?_
      rw [if_pos q2] at next
      refine ⟨⟨by first | decide | omega, by first | decide | omega⟩, ⟨by first | decide | omega, by first | decide | omega⟩, ?_⟩
      exact next
theorem tc_56 {a x k : Int} {n : Nat} {QX : Nat → zH → Prop} (hQ : QC v w W c S) (hR : TR v W S c a x n (wS W)) (hn : n ≤ 24)
    (K : Q (if k = 0 then (sTc1 W S c a x (n + 1)).1 else (sTc1 W S c a x (n + 1)).2) v) :
    ∀ (m h : Nat), h + m = n + 1 → zJ l G 1 (d + 7) h_W_touch k_W_touch 115 Q QX 56 [(2, 0), (3, 0), (0, (n : Int)), (0, k), (3, 0), (0, x), (0, (sTc1 W S c a x h).1), (0, (sTc1 W S c a x h).2), (0, (h : Int)), (3, 0), (3, 0)] [] v 115
  | 0, h, hh => by
    have e : h = n + 1 := by omega
    subst e
    refine zgo ck_W_touch 300 56 _ _ _ _ rfl (sg_W_touch_56 ?_)
    refine ⟨fun q1 => ⟨fun q2 => ?_, fun q3 => ?_⟩, fun q4 => ?_⟩
    try (any_goals (exfalso; first | omega | exact absurd trivial (by assumption)))
    · rw [if_neg q2] at K
      exact K
    · rw [if_pos q3] at K
      exact K
  | m + 1, h, hh => by
    have hN := hQ.2.2.1.2.2.2.1
    refine zgo ck_W_touch 300 56 _ _ _ _ rfl (sg_W_touch_56 ?_)
    refine ⟨fun q1 => ⟨fun q2 => ?_, fun q3 => ?_⟩, fun q4 => ?_⟩
    try (any_goals (exfalso; first | omega | exact absurd trivial (by assumption)))
    exact tc_61 (p := sTc1 W S c a x h) hQ hR (by omega) hn (tc_56 hQ hR hn K m (h + 1) (by omega)) (wN W).toNat 0 (by omega)
theorem tc_30 {a x k : Int} {n : Nat} {v0 : zH} {QX : Nat → zH → Prop} (ha : 0 ≤ a ∧ a < wN W) (hn : n ≤ 24)
    (K : ∀ v' : zH, Fq v0 v' → QC v' w W c S → Q (if k = 0 then (sTc1 W S c a x (n + 1)).1 else (sTc1 W S c a x (n + 1)).2) v') :
    ∀ (m i : Nat) {v : zH}, (i : Int) + m = wS W → Fq v0 v → QC v w W c S → TR v W S c a x n i → zJ l G 1 (d + 7) h_W_touch k_W_touch 115 Q QX 30 [(2, 0), (3, 0), (0, (n : Int)), (0, k), (0, a), (0, x), (0, (i : Int)), (3, 0), (3, 0), (3, 0), (3, 0)] [] v 115
  | 0, i, v, hi, hF, hQ, hR => by
    have hw := hQ.2.1
    obtain ⟨w0, w1, w3, w5, -⟩ := zwo_f hw
    have e : (i : Int) = wS W := by omega
    rw [e] at hR
    refine zgo ck_W_touch 300 30 _ _ _ _ rfl (sg_W_touch_30 ?_)
    try simp (disch := omega) only [zup_e, zup_ak, zup_j, Int.zero_add, hQ.1, hQ.2.2.2.1.2.2.2.1]
    refine ⟨by first | decide | omega, by first | decide | omega, by first | decide | omega, by first | decide | omega, ⟨fun q1 => ?_, fun q2 => ⟨fun q3 => ⟨⟨by first | decide | omega, by first | decide | omega⟩, ?_⟩, fun q4 => ⟨by first | decide | omega, ?_⟩⟩⟩⟩
    try (any_goals (exfalso; first | omega | exact absurd trivial (by assumption)))
    exact tc_56 hQ hR hn (K v hF hQ) (n + 1) 0 (by omega)
  | m + 1, i, v, hi, hF, hQ, hR => by
    have hw := hQ.2.1
    obtain ⟨w0, w1, w3, w5, -⟩ := zwo_f hw
    have h4 := hQ.2.2.1.2.2.2.2.2.2.1
    have hN := hQ.2.2.1.2.2.2.1
    refine zgo ck_W_touch 300 30 _ _ _ _ rfl (sg_W_touch_30 ?_)
    try simp (disch := omega) only [zup_e, zup_ak, zup_j, Int.zero_add, hQ.1, hQ.2.2.2.1.2.2.2.1]
    refine ⟨by first | decide | omega, by first | decide | omega, by first | decide | omega, by first | decide | omega, ⟨fun q1 => ?_, fun q2 => ⟨fun q3 => ⟨⟨by first | decide | omega, by first | decide | omega⟩, ?_⟩, fun q4 => ⟨by first | decide | omega, ?_⟩⟩⟩⟩
    try (any_goals (exfalso; first | omega | exact absurd trivial (by assumption)))
    · refine tc_30 ha hn K m (i + 1) (by omega) hF hQ (fun s h b q1 q2 q3' q4 q5 q6 q7 => ?_)
      by_cases e : s = i
      · subst e
        exact absurd (sBt_iff.mp q3') q3
      · exact hR s h b q1 (by omega) q3' q4 q5 q6 q7
    · refine c_W_tryOut hn hQ ha ⟨by omega, by omega⟩ (fun v1 g1 g2 g3 g5 => ?_)
      refine ⟨⟨by first | decide | omega, by first | decide | omega⟩, ?_⟩
      refine tc_30 ha hn K m (i + 1) (by omega) (Fq_tr hF g1) g2 (fun s h b q1 q2 q3' q4 q5 q6 q7 => ?_)
      by_cases e : s = i
      · subst e
        obtain ⟨h', rfl⟩ : ∃ n : Nat, h = n := ⟨h.toNat, by omega⟩
        exact g5 h' (by omega) b q6 q7
      · rw [g3 _ (by omega)]
        exact hR s h b q1 (by omega) q3' q4 q5 q6 q7
theorem c_W_touch {a n k : Int} (hQ : QC v w W c S) (hT : Tok W T) (hS : TS v T) (K : ∀ v' : zH, Fq v v' → QC v' w W c S → Q (aTouch W S c T a n k) v') : zC l G 1 (d + 8) h_W_touch [(2, 0), (0, a), (0, n), (0, k)] v 115 Q := by
  unfold aTouch at K
  have hw := hQ.2.1
  have w0 := (zwo_f hw).1
  have h4 := hQ.2.2.1.2.2.2.2.2.2.1
  have hb := fun h => ix_b (a := a) hQ.2.2.1 h
  refine zC_at ok_W_touch ck_W_touch rfl rfl (sg_W_touch_0 ?_)
  try simp (disch := omega) only [zup_e, zup_ak, zup_j, Int.zero_add, hQ.1]
  refine ⟨by first | decide | omega, by first | decide | omega, by first | decide | omega, ?_⟩
  try (any_goals (exfalso; first | omega | exact absurd trivial (by assumption)))
  refine c_ix hQ ?_
  by_cases h1 : isc (wR W) (wC W) a = true
  rotate_left
  · rw [if_neg h1]
    refine ⟨fun q1 => ?_, fun q2 => ?_⟩
    try (any_goals (exfalso; first | omega | exact absurd trivial (by assumption)))
    rw [if_neg (fun q => h1 q.1)] at K
    exact K _ Fq_rf hQ
  rw [if_pos h1]
  have hb := hb h1
  refine ⟨fun q1 => ?_, fun q2 => ?_⟩
  try (any_goals (exfalso; first | omega | exact absurd trivial (by assumption)))
  refine c_W_within ?_
  by_cases h2 : 0 ≤ n ∧ n ≤ 24
  rotate_left
  · rw [if_neg h2]
    refine ⟨fun q1 => ?_, fun q2 => ?_⟩
    try (any_goals (exfalso; first | omega | exact absurd trivial (by assumption)))
    rw [if_neg (fun q => h2 q.2.1)] at K
    exact K _ Fq_rf hQ
  rw [if_pos h2]
  refine ⟨fun q1 => ?_, fun q2 => ?_⟩
  try (any_goals (exfalso; first | omega | exact absurd trivial (by assumption)))
  refine c_W_within ?_
  by_cases h3 : 0 ≤ k ∧ k ≤ 1
  rotate_left
  · rw [if_neg h3]
    refine ⟨fun q1 => ⟨by first | decide | omega, ?_⟩, fun q2 => ?_⟩
    try (any_goals (exfalso; first | omega | exact absurd trivial (by assumption)))
    rw [if_neg (fun q => h3 q.2.2)] at K
    exact K _ Fq_rf hQ
  rw [if_pos h3]
  refine ⟨fun q1 => ⟨by first | decide | omega, ?_⟩, fun q2 => ?_⟩
  try (any_goals (exfalso; first | omega | exact absurd trivial (by assumption)))
  rw [if_pos ⟨h1, h2, h3⟩] at K
  obtain ⟨m, rfl⟩ : ∃ m : Nat, n = m := ⟨n.toNat, by omega⟩
  rw [Int.toNat_natCast] at K
  refine c_W_sortsThatFit hQ hT hS ⟨hb.1, hb.2.1⟩ (fun v1 g1 g2 _ => ?_)
  refine ⟨fun q1 => ?_, fun q2 => ?_⟩
  try (any_goals (exfalso; first | omega | exact absurd trivial (by assumption)))
  · rw [if_neg q1] at K
    exact tc_30 ⟨hb.1, hb.2.1⟩ (by omega) (fun v2 f1 f2 => K v2 (Fq_tr g1 f1) f2) (wS W).toNat 0 (by omega) Fq_rf g2 (fun s h b q1 q2 => absurd q1 (by omega))
  · rw [if_pos q2] at K
    exact K v1 g1 g2
end
