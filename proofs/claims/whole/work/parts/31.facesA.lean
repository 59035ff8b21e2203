/-! THE CLASS: the questions' answers, first half -/
section
variable {l : Launch} {G : zG} {d : Nat} {v : zH} {Q : Int → zH → Prop} {w : Int} {W : zWl} {c : zCo} {S : zSk}
theorem c_has1 {o : Int} (hQ : QC v w W c S) (K : Q (if 0 ≤ o ∧ o < wO W then 1 else 0) v) : zC l G 1 (d + 1) h_Ki_has [(2, w + 3), (0, o)] v 115 Q :=
  c_Ki_has (zwo_k hQ.2.1).2.1 hQ.2.2.2.1.2.2.2.2.1 K
theorem c_has2 {o : Int} (hQ : QC v w W c S) (K : Q (if 0 ≤ o ∧ o < wZ W then 1 else 0) v) : zC l G 1 (d + 1) h_Ki_has [(2, w + 5), (0, o)] v 115 Q :=
  c_Ki_has (zwo_k hQ.2.1).2.2.1 hQ.2.2.2.1.2.2.2.2.2.1 K
theorem q_st {s k : Int} (hQ : QC v w W c S) (hs : 0 ≤ s ∧ s < wS W) (hk : 0 ≤ k ∧ k < 3) (K : Q (wT W (3 * s + k)) v) : zC l G 1 (d + 1) h_Ki_number [(2, w + 1), (0, s), (0, k)] v 115 Q := n_st hQ.2.1 hQ.2.2.1 hQ.2.2.2.1 hs hk K
theorem q_ov {s k : Int} (hQ : QC v w W c S) (hs : 0 ≤ s ∧ s < wO W) (hk : 0 ≤ k ∧ k < 5) (K : Q (wV W (5 * s + k)) v) : zC l G 1 (d + 1) h_Ki_number [(2, w + 3), (0, s), (0, k)] v 115 Q := n_ov hQ.2.1 hQ.2.2.1 hQ.2.2.2.1 hs hk K
theorem q_sl {s k : Int} (hQ : QC v w W c S) (hs : 0 ≤ s ∧ s < wZ W) (hk : 0 ≤ k ∧ k < 2) (K : Q (wL W (2 * s + k)) v) : zC l G 1 (d + 1) h_Ki_number [(2, w + 5), (0, s), (0, k)] v 115 Q := n_sl hQ.2.1 hQ.2.2.1 hQ.2.2.2.1 hs hk K
theorem W_n0 (hW : Wok W) : (wN W = 0 ↔ ¬ 0 < wR W) ∧ (0 < wR W → 1 ≤ wN W) := by
  obtain ⟨W1, W2, W3, W4, W5, W6, W7, W8, W9, WT, WV, WZ, WG⟩ := hW
  omega
theorem c_W_ahead {a n k : Int} (hQ : QC v w W c S) (K : ∀ v' : zH, Fq v v' → QC v' w W c S → Q (aAhead W S c a n k) v') : zC l G 1 (d + 7) h_W_ahead [(2, 0), (0, a), (0, n), (0, k)] v 115 Q := by
  unfold aAhead at K
  have hw := hQ.2.1
  have w0 := (zwo_f hw).1
  have z2 : zLN (33 + 2) = 24 := by decide
  have z1 : zLN (33 + 1) = 24 := by decide
  refine zC_at ok_W_ahead ck_W_ahead rfl rfl (sg_W_ahead_0 ?_)
  try simp (disch := omega) only [zup_e, zup_ak, zup_j, Int.zero_add, hQ.1]
  refine ⟨by first | decide | omega, by first | decide | omega, by first | decide | omega, ?_⟩
  try (any_goals (exfalso; first | omega | exact absurd trivial (by assumption)))
  refine c_ix hQ ?_
  have hb := fun h => ix_b (a := a) hQ.2.2.1 h
  by_cases h1 : isc (wR W) (wC W) a = true
  rotate_left
  · rw [if_neg h1]
    refine ⟨fun q1 => ?_, fun q2 => ?_⟩
    try (any_goals (exfalso; first | omega | exact absurd trivial (by assumption)))
    rw [if_neg (fun q => h1 q.1)] at K
    exact K _ Fq_rf hQ
  rw [if_pos h1]
  have hb := hb h1
  refine ⟨fun q1 => ?_, fun q2 => ?_⟩
  try (any_goals (exfalso; first | omega | exact absurd trivial (by assumption)))
  refine c_W_within ?_
  by_cases h2 : 1 ≤ n ∧ n ≤ 72
  rotate_left
  · rw [if_neg h2]
    refine ⟨fun q1 => ?_, fun q2 => ?_⟩
    try (any_goals (exfalso; first | omega | exact absurd trivial (by assumption)))
    rw [if_neg (fun q => h2 q.2.1)] at K
    exact K _ Fq_rf hQ
  rw [if_pos h2]
  refine ⟨fun q1 => ?_, fun q2 => ?_⟩
  try (any_goals (exfalso; first | omega | exact absurd trivial (by assumption)))
  refine c_W_within ?_
  by_cases h3 : 0 ≤ k ∧ k ≤ 1
  rotate_left
  · rw [if_neg h3]
    refine ⟨fun q1 => ⟨by first | decide | omega, ?_⟩, fun q2 => ?_⟩
    try (any_goals (exfalso; first | omega | exact absurd trivial (by assumption)))
    rw [if_neg (fun q => h3 q.2.2)] at K
    exact K _ Fq_rf hQ
  rw [if_pos h3]
  refine ⟨fun q1 => ⟨by first | decide | omega, ?_⟩, fun q2 => ?_⟩
  try (any_goals (exfalso; first | omega | exact absurd trivial (by assumption)))
  rw [if_pos ⟨h1, h2, h3⟩] at K
  obtain ⟨m, rfl⟩ : ∃ m : Nat, n = m := ⟨n.toNat, by omega⟩
  rw [Int.toNat_natCast] at K
  refine c_W_goAhead (n := m) (by omega) hQ (fun v1 g1 g2 g3 g4 => ?_)
  try simp (disch := omega) only [zup_e, zup_ak, zup_j, Int.zero_add]
  refine ⟨fun q1 => ⟨by first | decide | omega, by first | decide | omega, by first | decide | omega, ⟨by first | decide | omega, by first | decide | omega⟩, ?_⟩, fun q2 => ⟨by first | decide | omega, by first | decide | omega, by first | decide | omega, ⟨by first | decide | omega, by first | decide | omega⟩, ?_⟩⟩
  try (any_goals (exfalso; first | omega | exact absurd trivial (by assumption)))
  · rw [g4 (by omega) _ hb.1 hb.2.1]
    rw [if_neg q1] at K
    exact K v1 g1 g2
  · rw [(g3.2.1 _ hb.1 hb.2.1).1]
    rw [if_pos q2] at K
    exact K v1 g1 g2
theorem c_W_air {n : Int} (hQ : QC v w W c S) (K : ∀ v' : zH, Fq v v' → QC v' w W c S → Q (aAir W S c n) v') : zC l G 1 (d + 7) h_W_air [(2, 0), (0, n)] v 115 Q := by
  unfold aAir at K
  have hw := hQ.2.1
  have w0 := (zwo_f hw).1
  have hn0 := W_n0 hQ.2.2.1
  refine zC_at ok_W_air ck_W_air rfl rfl (sg_W_air_0 ?_)
  try simp (disch := omega) only [zup_e, zup_ak, zup_j, Int.zero_add, hQ.1, hQ.2.2.2.1.2.2.1]
  refine ⟨by first | decide | omega, by first | decide | omega, by first | decide | omega, ⟨fun q1 => ?_, fun q2 => ?_⟩⟩
  try (any_goals (exfalso; first | omega | exact absurd trivial (by assumption)))
  · rw [if_neg (fun q => by omega)] at K
    exact K _ Fq_rf hQ
  refine c_W_within ?_
  by_cases h2 : 1 ≤ n ∧ n ≤ 72
  rotate_left
  · rw [if_neg h2]
    refine ⟨fun q1 => ⟨by first | decide | omega, by first | decide | omega, by first | decide | omega, ?_⟩, fun q2 => ?_⟩
    try (any_goals (exfalso; first | omega | exact absurd trivial (by assumption)))
    rw [if_neg (fun q => h2 q.2)] at K
    exact K _ Fq_rf hQ
  rw [if_pos h2]
  refine ⟨fun q1 => ⟨by first | decide | omega, by first | decide | omega, by first | decide | omega, ?_⟩, fun q2 => ?_⟩
  try (any_goals (exfalso; first | omega | exact absurd trivial (by assumption)))
  rw [if_pos ⟨by omega, h2⟩] at K
  obtain ⟨m, rfl⟩ : ∃ m : Nat, n = m := ⟨n.toNat, by omega⟩
  rw [Int.toNat_natCast] at K
  refine c_fol hQ (fun v1 g1 g2 g3 => ?_)
  try simp (disch := omega) only [zup_e, zup_ak, zup_j, Int.zero_add]
  refine ⟨by first | decide | omega, ?_⟩
  refine c_W_airAhead (by omega) g2 g2.2.2.2.2.1.1 g2.2.2.2.2.1.2 g3 (fun v2 q1 q2 q3 => ?_)
  exact K v2 (Fq_tr (fun b _ r1 _ _ => g1 b (by omega)) q1) q2
theorem Cok_off {o : Int} (hc : Cok W c) : Cok W (cOff c o) := by
  refine ⟨hc.1, hc.2.1, fun k h1 h2 => ?_⟩
  have := hc.2.2 k h1 h2
  show (0 ≤ upf (cF c) o 0 k ∧ upf (cF c) o 0 k ≤ 23) ∧ 0 ≤ upf (cU c) o 0 k ∧ upf (cU c) o 0 k ≤ 23
  unfold upf
  split <;> omega
theorem sAir_b {n : Nat} {sn : zSn} {rn : Int} (hs : snOk sn) (hW : Wok W) (hc : Cok W c) (hn : cH c + n ≤ 1000000) (hn2 : n ≤ 72) : 0 ≤ sAir W sn rn c n ∧ sAir W sn rn c n ≤ 10000000 := by
  have h4 := hW.2.2.2.1
  have := zsm_b (f := sFa W sn rn c n) (k := 288000) (wN W).toNat (fun i h1 h2 => by
    have := sFa_b (rn := rn) (n := n) hs hW hc hn h1 (by omega)
    omega)
  unfold sAir
  omega
theorem c_W_without {o n : Int} (hQ : QC v w W c S) (K : ∀ v' : zH, Fq v v' → QC v' w W c S → Q (aWithout W S c o n) v') : zC l G 1 (d + 7) h_W_without [(2, 0), (0, o), (0, n)] v 115 Q := by
  unfold aWithout at K
  have hw := hQ.2.1
  obtain ⟨w0, w1, w3, w5, -⟩ := zwo_f hw
  have z4 : zLN (33 + 4) = 3 := by decide
  have z5 : zLN (33 + 5) = 3 := by decide
  have hO := hQ.2.2.1.2.2.2.2.2.2.2.1
  refine zC_at ok_W_without ck_W_without rfl rfl (sg_W_without_0 ?_)
  try simp (disch := omega) only [zup_e, zup_ak, zup_j, Int.zero_add, hQ.1]
  refine ⟨by first | decide | omega, by first | decide | omega, by first | decide | omega, by first | decide | omega, ?_⟩
  try (any_goals (exfalso; first | omega | exact absurd trivial (by assumption)))
  refine c_has1 hQ ?_
  by_cases h1 : 0 ≤ o ∧ o < wO W
  rotate_left
  · rw [if_neg h1]
    refine ⟨fun q1 => ?_, fun q2 => ?_⟩
    try (any_goals (exfalso; first | omega | exact absurd trivial (by assumption)))
    rw [if_neg (fun q => h1 q.1)] at K
    exact K _ Fq_rf hQ
  rw [if_pos h1]
  refine ⟨fun q1 => ?_, fun q2 => ?_⟩
  try (any_goals (exfalso; first | omega | exact absurd trivial (by assumption)))
  refine c_W_within ?_
  by_cases h2 : 1 ≤ n ∧ n ≤ 72
  rotate_left
  · rw [if_neg h2]
    refine ⟨fun q1 => ⟨by first | decide | omega, by first | decide | omega, by first | decide | omega, ?_⟩, fun q2 => ?_⟩
    try (any_goals (exfalso; first | omega | exact absurd trivial (by assumption)))
    rw [if_neg (fun q => h2 q.2)] at K
    exact K _ Fq_rf hQ
  rw [if_pos h2]
  refine ⟨fun q1 => ⟨by first | decide | omega, by first | decide | omega, by first | decide | omega, ?_⟩, fun q2 => ?_⟩
  try (any_goals (exfalso; first | omega | exact absurd trivial (by assumption)))
  rw [if_pos ⟨h1, h2⟩] at K
  obtain ⟨m, rfl⟩ : ∃ m : Nat, n = m := ⟨n.toNat, by omega⟩
  rw [Int.toNat_natCast] at K
  refine c_fol hQ (fun v1 g1 g2 g3 => ?_)
  try simp (disch := omega) only [zup_e, zup_ak, zup_j, Int.zero_add]
  refine ⟨by first | decide | omega, ?_⟩
  refine c_W_airAhead (by omega) g2 g2.2.2.2.2.1.1 g2.2.2.2.2.1.2 g3 (fun v2 f1 f2 _ => ?_)
  try simp (disch := omega) only [zup_e, zup_ak, zup_j, Int.zero_add]
  refine ⟨by first | decide | omega, by first | decide | omega, by first | decide | omega, ?_⟩
  refine c_fol f2 (fun v3 e1 e2 e3 => ?_)
  try simp (disch := omega) only [zup_e, zup_ak, zup_j, Int.zero_add]
  refine ⟨by first | decide | omega, by first | decide | omega, by first | decide | omega, ⟨by first | decide | omega, by first | decide | omega⟩, by first | decide | omega, by first | decide | omega, by first | decide | omega, ⟨by first | decide | omega, by first | decide | omega⟩, by first | decide | omega, ?_⟩
  have hF : Fq v3 (zupd (zupd v3 (33 + 4) o 0) (33 + 5) o 0) := fun b _ r1 _ _ => by rw [zup_a (by omega), zup_a (by omega)]
  have eC : CO (zupd (zupd v3 (33 + 4) o 0) (33 + 5) o 0) 33 W (cOff c o) := by
    refine ⟨?_, fun a h1 h2 => ?_, fun k h1 h2 => ?_⟩
    · rw [zup_ak (by omega), zup_ak (by omega)]
      exact e3.1
    · rw [zup_ak (by omega), zup_ak (by omega), zup_ak (by omega), zup_ak (by omega)]
      exact e3.2.1 a h1 h2
    · show _ = upf (cF c) o 0 k ∧ _ = upf (cU c) o 0 k
      have := e3.2.2 k h1 h2
      by_cases e : k = o
      · subst e
        rw [zup_ak (by omega), zup_s, zup_s, upf_s, upf_s]
        exact ⟨rfl, rfl⟩
      · rw [zup_ak (by omega), zup_j e, zup_j e, zup_ak (by omega), upf_n e, upf_n e]
        exact this
  have hc := hQ.2.2.2.2.1
  have b1 := sAir_b (n := m) (sn := sSn S) (rn := kR S) snOk_S hQ.2.2.1 hc.1 (by omega) (by omega)
  have b2 := sAir_b (n := m) (sn := sSn S) (rn := kR S) snOk_S hQ.2.2.1 (Cok_off (o := o) hc.1) (by show cH c + _ ≤ _; omega) (by omega)
  refine c_W_airAhead (by omega) (QC_fr hF (SK_fk e2.2.2.2.2.2.2.1 (fun b q1 q2 => by rw [zup_a (by omega), zup_a (by omega)]) e2.2.2.2.2.2.2.2) e2) (Cok_off hc.1) (by show cH c ≤ _; omega) eC (fun v4 u1 u2 _ => ?_)
  try simp (disch := omega) only [zup_e, zup_ak, zup_j, Int.zero_add]
  refine ⟨⟨by first | decide | omega, by first | decide | omega⟩, ?_⟩
  exact K v4 (Fq_tr (fun b _ r1 _ _ => g1 b (by omega)) (Fq_tr f1 (Fq_tr (fun b _ r1 _ _ => e1 b (by omega)) (Fq_tr hF u1)))) u2
theorem c_W_comfort {z a : Int} (hQ : QC v w W c S) (K : ∀ v' : zH, Fq v v' → QC v' w W c S → Q (aComfort W S c z a) v') : zC l G 1 (d + 7) h_W_comfort [(2, 0), (0, z), (0, a)] v 115 Q := by
  unfold aComfort at K
  have hw := hQ.2.1
  obtain ⟨w0, w1, w3, w5, -⟩ := zwo_f hw
  have z6 : zLN (33 + 6) = 24 := by decide
  refine zC_at ok_W_comfort ck_W_comfort rfl rfl (sg_W_comfort_0 ?_)
  try simp (disch := omega) only [zup_e, zup_ak, zup_j, Int.zero_add, hQ.1]
  refine ⟨by first | decide | omega, by first | decide | omega, by first | decide | omega, ?_⟩
  try (any_goals (exfalso; first | omega | exact absurd trivial (by assumption)))
  refine c_ix hQ ?_
  have hb := fun h => ix_b (a := a) hQ.2.2.1 h
  by_cases h1 : isc (wR W) (wC W) a = true
  rotate_left
  · rw [if_neg h1]
    try simp (disch := omega) only [zup_e, zup_ak, zup_j, Int.zero_add, hQ.1]
    refine ⟨fun q1 => ?_, fun q2 => ⟨by first | decide | omega, by first | decide | omega, by first | decide | omega, by first | decide | omega, ?_⟩⟩
    try (any_goals (exfalso; first | omega | exact absurd trivial (by assumption)))
    rw [if_neg (fun q => h1 q.2)] at K
    exact K _ Fq_rf hQ
  rw [if_pos h1]
  have hb := hb h1
  try simp (disch := omega) only [zup_e, zup_ak, zup_j, Int.zero_add, hQ.1]
  refine ⟨fun q1 => ?_, fun q2 => ⟨by first | decide | omega, by first | decide | omega, by first | decide | omega, by first | decide | omega, ?_⟩⟩
  try (any_goals (exfalso; first | omega | exact absurd trivial (by assumption)))
  refine c_has2 hQ ?_
  by_cases h2 : 0 ≤ z ∧ z < wZ W
  rotate_left
  · rw [if_neg h2]
    refine ⟨fun q1 => ⟨by first | decide | omega, ?_⟩, fun q2 => ?_⟩
    try (any_goals (exfalso; first | omega | exact absurd trivial (by assumption)))
    rw [if_neg (fun q => h2 q.1)] at K
    exact K _ Fq_rf hQ
  rw [if_pos h2]
  refine ⟨fun q1 => ⟨by first | decide | omega, ?_⟩, fun q2 => ?_⟩
  try (any_goals (exfalso; first | omega | exact absurd trivial (by assumption)))
  rw [if_pos ⟨h2, h1⟩] at K
  refine c_W_nightAhead hQ (fun v1 g1 g2 g3 => ?_)
  have hc := hQ.2.2.2.2.1
  have b1 := sNi_b (sn := sSn S) (rn := kR S) snOk_S hQ.2.2.1 hc.1 (by omega) hb.1 hb.2.1
  have b2 := hQ.2.2.1.2.2.2.2.2.2.2.2.2.2.2.1 z h2.1 h2.2
  try simp (disch := omega) only [zup_e, zup_ak, zup_j, Int.zero_add, g2.1]
  refine ⟨by first | decide | omega, by first | decide | omega, by first | decide | omega, ⟨by first | decide | omega, by first | decide | omega⟩, by first | decide | omega, by first | decide | omega, by first | decide | omega, by first | decide | omega, ?_⟩
  refine q_sl g2 h2 (by omega) ?_
  show _
  rw [g3 _ hb.1 hb.2.1]
  refine ⟨⟨by first | decide | omega, by first | decide | omega⟩, ?_⟩
  exact K v1 g1 g2
theorem c_W_stone {s k : Int} (hQ : QC v w W c S) (K : Q (aStone W s k) v) : zC l G 1 (d + 2) h_W_stone [(2, 0), (0, s), (0, k)] v 115 Q := by
  unfold aStone at K
  have hw := hQ.2.1
  obtain ⟨w0, w1, w3, w5, -⟩ := zwo_f hw
  obtain ⟨z1, z2, z3, z4, z5, z6⟩ := zwo_k hw
  have m : kMx 0 = 4 := rfl
  have n : kN 0 = 3 := rfl
  have h4 := hQ.2.2.1.2.2.2.2.2.2.1
  refine zC_at ok_W_stone ck_W_stone rfl rfl (sg_W_stone_0 ?_)
  try simp (disch := omega) only [zup_e, zup_ak, zup_j, Int.zero_add, hQ.1]
  refine ⟨by first | decide | omega, by first | decide | omega, by first | decide | omega, by first | decide | omega, ?_⟩
  refine c_Ki_number z1 hQ.2.2.2.1.2.2.2.1 (by rw [z4, m]; omega) ?_
  rw [z4, n]
  refine zQe K ?_
  by_cases h : (0 ≤ s ∧ s < wS W) ∧ 0 ≤ k ∧ k < 3
  · rw [if_pos h, if_pos (by omega), hQ.2.2.2.1.2.2.2.2.2.2.1 _ (by omega) (by omega)]
    congr 1
    omega
  · rw [if_neg h, if_neg (by omega)]
theorem c_W_sleeper {s k : Int} (hQ : QC v w W c S) (K : Q (aSleeper W s k) v) : zC l G 1 (d + 2) h_W_sleeper [(2, 0), (0, s), (0, k)] v 115 Q := by
  unfold aSleeper at K
  have hw := hQ.2.1
  obtain ⟨w0, w1, w3, w5, -⟩ := zwo_f hw
  obtain ⟨z1, z2, z3, z4, z5, z6⟩ := zwo_k hw
  have m : kMx 2 = 5 := rfl
  have n : kN 2 = 2 := rfl
  have h4 := hQ.2.2.1.2.2.2.2.2.2.2.2.1
  refine zC_at ok_W_sleeper ck_W_sleeper rfl rfl (sg_W_sleeper_0 ?_)
  try simp (disch := omega) only [zup_e, zup_ak, zup_j, Int.zero_add, hQ.1]
  refine ⟨by first | decide | omega, by first | decide | omega, by first | decide | omega, by first | decide | omega, ?_⟩
  refine c_Ki_number z3 hQ.2.2.2.1.2.2.2.2.2.1 (by rw [z6, m]; omega) ?_
  rw [z6, n]
  refine zQe K ?_
  by_cases h : (0 ≤ s ∧ s < wZ W) ∧ 0 ≤ k ∧ k < 2
  · rw [if_pos h, if_pos (by omega), hQ.2.2.2.1.2.2.2.2.2.2.2.2.1 _ (by omega) (by omega)]
    congr 1
    omega
  · rw [if_neg h, if_neg (by omega)]
theorem c_W_oven {o k : Int} (hQ : QC v w W c S) (K : Q (aOven W c o k) v) : zC l G 1 (d + 3) h_W_oven [(2, 0), (0, o), (0, k)] v 115 Q := by
  unfold aOven at K
  have hw := hQ.2.1
  obtain ⟨w0, w1, w3, w5, -⟩ := zwo_f hw
  have z4 : zLN (24 + 4) = 3 := by decide
  have z5 : zLN (24 + 5) = 3 := by decide
  have hO := hQ.2.2.1.2.2.2.2.2.2.2.1
  refine zC_at ok_W_oven ck_W_oven rfl rfl (sg_W_oven_0 ?_)
  try simp (disch := omega) only [zup_e, zup_ak, zup_j, Int.zero_add, hQ.1]
  refine ⟨by first | decide | omega, by first | decide | omega, by first | decide | omega, by first | decide | omega, ?_⟩
  try (any_goals (exfalso; first | omega | exact absurd trivial (by assumption)))
  refine c_has1 hQ ?_
  by_cases h1 : 0 ≤ o ∧ o < wO W
  rotate_left
  · rw [if_neg h1]
    refine ⟨fun q1 => ⟨fun q2 => ?_, fun q3 => ⟨by first | decide | omega, by first | decide | omega, by first | decide | omega, by first | decide | omega, ?_⟩, fun q4 => ⟨by first | decide | omega, by first | decide | omega, by first | decide | omega, ⟨by first | decide | omega, by first | decide | omega⟩, ?_⟩, fun q5 => ⟨by first | decide | omega, by first | decide | omega, by first | decide | omega, ⟨by first | decide | omega, by first | decide | omega⟩, ?_⟩, fun q6 => ⟨by first | decide | omega, by first | decide | omega, by first | decide | omega, by first | decide | omega, ?_⟩, fun q7 => ⟨by first | decide | omega, by first | decide | omega, ?_⟩, fun q8 => ?_⟩, fun q9 => ?_⟩
    try (any_goals (exfalso; first | omega | exact absurd trivial (by assumption)))
    rw [if_neg (fun q => h1 q.1)] at K
    exact K
  rw [if_pos h1]
  have hC := hQ.2.2.2.2.2.1.2.2 o h1.1 h1.2
  have hv := hQ.2.2.1.2.2.2.2.2.2.2.2.2.2.1 o h1.1 h1.2
  have hR := hQ.2.2.1.1
  have hC6 := hQ.2.2.1.2.1
  try simp (disch := omega) only [zup_e, zup_ak, zup_j, Int.zero_add, hQ.1]
  refine ⟨fun q1 => ⟨fun q2 => ?_, fun q3 => ⟨by first | decide | omega, by first | decide | omega, by first | decide | omega, by first | decide | omega, ?_⟩, fun q4 => ⟨by first | decide | omega, by first | decide | omega, by first | decide | omega, ⟨by first | decide | omega, by first | decide | omega⟩, ?_⟩, fun q5 => ⟨by first | decide | omega, by first | decide | omega, by first | decide | omega, ⟨by first | decide | omega, by first | decide | omega⟩, ?_⟩, fun q6 => ⟨by first | decide | omega, by first | decide | omega, by first | decide | omega, by first | decide | omega, ?_⟩, fun q7 => ⟨by first | decide | omega, by first | decide | omega, ?_⟩, fun q8 => ?_⟩, fun q9 => ?_⟩
  try (any_goals (exfalso; first | omega | exact absurd trivial (by assumption)))
  · rw [if_neg (by omega)] at K; exact K
  · refine q_ov hQ h1 (by omega) ?_
    rw [Int.add_zero]
    try simp (disch := omega) only [zup_e, zup_ak, zup_j, Int.zero_add, hQ.1]
    refine ⟨⟨by first | decide | omega, by first | decide | omega⟩, by first | decide | omega, by first | decide | omega, by first | decide | omega, by first | decide | omega, ?_⟩
    refine q_ov hQ h1 (by omega) ?_
    refine ⟨⟨by first | decide | omega, by first | decide | omega⟩, ?_⟩
    rw [if_pos ⟨h1, by omega⟩, if_pos q3] at K
    exact K
  · rw [if_pos ⟨h1, by omega⟩, if_neg (by omega), if_pos q4] at K
    rw [hC.1]
    exact K
  · rw [if_pos ⟨h1, by omega⟩, if_neg (by omega), if_neg (by omega), if_pos q5] at K
    rw [hC.2]
    exact K
  · refine q_ov hQ h1 (by omega) ?_
    rw [if_pos ⟨h1, by omega⟩, if_neg (by omega), if_neg (by omega), if_neg (by omega), if_pos q6] at K
    exact K
  · rw [if_pos ⟨h1, by omega⟩, if_neg (by omega), if_neg (by omega), if_neg (by omega), if_neg (by omega)] at K
    refine c_Co_burns (Or.inl rfl) hQ.2.2.2.2.1.1 hQ.2.2.2.2.2.1 h1 hQ.2.2.1 ?_
    by_cases hb : sBurn (cF c o) (cU c o) (cH c) = true
    · rw [if_pos hb] at K ⊢
      refine ⟨fun q1 => ?_, fun q2 => ?_⟩
      try (any_goals (exfalso; first | omega | exact absurd trivial (by assumption)))
      exact K
    · rw [if_neg hb] at K ⊢
      refine ⟨fun q1 => ?_, fun q2 => ?_⟩
      try (any_goals (exfalso; first | omega | exact absurd trivial (by assumption)))
      exact K
  · rw [if_neg (by omega)] at K; exact K
end
