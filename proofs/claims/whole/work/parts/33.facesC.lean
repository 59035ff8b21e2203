/-! THE CLASS: one stone changed, an oven's hours, a wall laid anew, days alike -/
section
variable {l : Launch} {G : zG} {d : Nat} {v : zH} {Q : Int → zH → Prop} {w : Int} {W : zWl} {c : zCo} {S : zSk}
theorem c_chg {c1 : zCo} {a s : Int} (hQ : QC v w W c S) (hc : Cok W c1) (hO : CO v 33 W c1) (ha : 0 ≤ a ∧ a < wN W) (hs : 0 ≤ s ∧ s < wS W) (K : ∀ v' : zH, (∀ b : Int, b < 33 ∨ 38 < b → v' b = v b) → QC v' w W c S → CO v' 33 W (sChg W c1 a s) → Q 0 v') : zC l G 1 (d + 2) h_Co_change [(2, 33), (0, a), (0, s), (2, w)] v 115 Q := by
  refine c_Co_change (Or.inr rfl) hQ.2.1 hQ.2.2.1 hQ.2.2.2.1 hc hO ha hs (fun v' g1 g2 => ?_)
  have hf : ∀ b : Int, b < 33 ∨ 38 < b → v' b = v b := fun b q => g1 b (by omega) (by omega)
  exact K v' hf (QC_fr (fun b _ q1 _ _ => hf b (by omega)) (SK_fk hQ.2.2.2.2.2.2.1 (fun b q1 q2 => hf b (by omega)) hQ.2.2.2.2.2.2.2) hQ) g2
theorem Fo_Fq {u v : zH} (h : ∀ b : Int, b < 33 ∨ 38 < b → v b = u b) : Fq u v := fun b _ q _ _ => h b (by omega)
theorem chF_b {a b s : Int} {n : Nat} (hQ : QC v w W c S) (hn : n ≤ 72) (ha : 0 ≤ a ∧ a < wN W) (hs : 0 ≤ s ∧ s < wS W) : 0 ≤ sChF W S c a n b s ∧ sChF W S c a n b s ≤ 4000 :=
  sFk_b snOk_S hQ.2.2.1 (Cok_chg hQ.2.2.1 hQ.2.2.2.2.1.1 hs) (by have := hQ.2.2.2.2.1.2; show cH c + _ ≤ _; omega) ha.1 ha.2
theorem cg_53 {n : Nat} {a k b s : Int} {p : Int × Int} {v0 : zH} {QX : Nat → zH → Prop} (hn : 1 ≤ n ∧ n ≤ 72) (ha : 0 ≤ a ∧ a < wN W) (hb : 0 ≤ b ∧ b < wN W) (hs : 0 ≤ s ∧ s < wS W)
    (K : ∀ v' : zH, Fq v0 v' → QC v' w W c S → zJ l G 1 (d + 6) h_W_changed k_W_changed 115 Q QX 33 [(2, 0), (3, 0), (0, (n : Int)), (0, k), (0, a), (0, (if p.2 < sChF W S c a n b s then (10 * nmi (wC W) b + s, sChF W S c a n b s) else p).1), (0, (if p.2 < sChF W S c a n b s then (10 * nmi (wC W) b + s, sChF W S c a n b s) else p).2), (0, b), (0, s + 1), (3, 0)] [] v' 115) :
    ∀ (m i : Nat) {v : zH}, i + m = n → Fq v0 v → QC v w W c S → CO v 33 W (sSt W (sSn S) (kR S) (sChg W c b s) i) → (1 ≤ i → ∀ a : Int, 0 ≤ a → a < wN W → v (33 + 2) a = sFk W (sSn S) (kR S) (sChg W c b s) (i - 1) a) →
    zJ l G 1 (d + 6) h_W_changed k_W_changed 115 Q QX 53 [(2, 0), (3, 0), (0, (n : Int)), (0, k), (0, a), (0, p.1), (0, p.2), (0, b), (0, s), (0, (i : Int))] [] v 115
  | 0, i, v, hi, hF, hQ, hA, hf => by
    have hw := hQ.2.1
    have w0 := (zwo_f hw).1
    have hN := hQ.2.2.1.2.2.2.1
    have h4 := hQ.2.2.1.2.2.2.2.2.2.1
    have z2 : zLN (33 + 2) = 24 := by decide
    have e : i = n := by omega
    subst e
    have e2 : v (33 + 2) a = sChF W S c a i b s := hf (by omega) a ha.1 ha.2
    have K := K v hF hQ
    have nb := nm_b hQ.2.2.1 hb
    refine zgo ck_W_changed 300 53 _ _ _ _ rfl (sg_W_changed_53 ?_)
    try simp (disch := omega) only [zup_e, zup_ak, zup_j, Int.zero_add, hQ.1, e2]
    refine ⟨fun q1 => ⟨by first | decide | omega, by first | decide | omega, by first | decide | omega, ⟨by first | decide | omega, by first | decide | omega⟩, ⟨fun q2 => ⟨⟨by first | decide | omega, by first | decide | omega⟩, ?_⟩, fun q3 => ⟨by first | decide | omega, by first | decide | omega, by first | decide | omega, ?_⟩⟩⟩, fun q4 => ⟨by first | decide | omega, by first | decide | omega, by first | decide | omega, by first | decide | omega, by first | decide | omega, ?_⟩⟩
    try (any_goals (exfalso; first | omega | exact absurd trivial (by assumption)))
    · rw [if_neg (by omega)] at K
      exact K
    · refine c_nm hQ hb ?_
      rw [if_pos q3] at K
      show _
      rw [e2]
      refine ⟨⟨by first | decide | omega, by first | decide | omega⟩, ⟨by first | decide | omega, by first | decide | omega⟩, by first | decide | omega, by first | decide | omega, by first | decide | omega, ⟨by first | decide | omega, by first | decide | omega⟩, ⟨by first | decide | omega, by first | decide | omega⟩, ?_⟩
      exact K
  | m + 1, i, v, hi, hF, hQ, hA, hf => by
    have hw := hQ.2.1
    have hc1 := Cok_st (sn := sSn S) (rn := kR S) snOk_S hQ.2.2.1 (Cok_chg (a := b) hQ.2.2.1 hQ.2.2.2.2.1.1 hs) i (by have := hQ.2.2.2.2.1.2; show cH c + _ ≤ _; omega)
    refine zgo ck_W_changed 300 53 _ _ _ _ rfl (sg_W_changed_53 ?_)
    try simp (disch := omega) only [zup_e, zup_ak, zup_j, Int.zero_add, hQ.1]
    refine ⟨fun q1 => ⟨by first | decide | omega, by first | decide | omega, by first | decide | omega, ⟨by first | decide | omega, by first | decide | omega⟩, ⟨fun q2 => ⟨⟨by first | decide | omega, by first | decide | omega⟩, ?_⟩, fun q3 => ⟨by first | decide | omega, by first | decide | omega, by first | decide | omega, ?_⟩⟩⟩, fun q4 => ⟨by first | decide | omega, by first | decide | omega, by first | decide | omega, by first | decide | omega, by first | decide | omega, ?_⟩⟩
    try (any_goals (exfalso; first | omega | exact absurd trivial (by assumption)))
    refine c_st hQ hc1 hA (fun v1 g1 g2 g3 g4 => ?_)
    refine ⟨⟨by first | decide | omega, by first | decide | omega⟩, ?_⟩
    exact cg_53 hn ha hb hs K m (i + 1) (by omega) (Fq_tr hF (Fr_Fq g1)) g2 g3 (fun _ => g4)
theorem cg_33 {n : Nat} {a k b : Int} {p : Int × Int} {v0 : zH} {QX : Nat → zH → Prop} (hn : 1 ≤ n ∧ n ≤ 72) (ha : 0 ≤ a ∧ a < wN W) (hb : 0 ≤ b ∧ b < wN W)
    (K : ∀ v' : zH, Fq v0 v' → QC v' w W c S → zJ l G 1 (d + 6) h_W_changed k_W_changed 115 Q QX 26 [(2, 0), (3, 0), (0, (n : Int)), (0, k), (0, a), (0, (sCh2 W S c a n p b (wS W).toNat).1), (0, (sCh2 W S c a n p b (wS W).toNat).2), (0, b + 1), (3, 0), (3, 0)] [] v' 115) :
    ∀ (m i : Nat) {v : zH}, (i : Int) + m = wS W → Fq v0 v → QC v w W c S →
    zJ l G 1 (d + 6) h_W_changed k_W_changed 115 Q QX 33 [(2, 0), (3, 0), (0, (n : Int)), (0, k), (0, a), (0, (sCh2 W S c a n p b i).1), (0, (sCh2 W S c a n p b i).2), (0, b), (0, (i : Int)), (3, 0)] [] v 115
  | 0, i, v, hi, hF, hQ => by
    have hw := hQ.2.1
    obtain ⟨w0, w1, w3, w5, -⟩ := zwo_f hw
    have hN := hQ.2.2.1.2.2.2.1
    have e : i = (wS W).toNat := by omega
    refine zgo ck_W_changed 300 33 _ _ _ _ rfl (sg_W_changed_33 ?_)
    try simp (disch := omega) only [zup_e, zup_ak, zup_j, Int.zero_add, hQ.1, hQ.2.2.2.1.2.2.2.1]
    refine ⟨by first | decide | omega, by first | decide | omega, by first | decide | omega, by first | decide | omega, ⟨fun q1 => ⟨⟨by first | decide | omega, by first | decide | omega⟩, ?_⟩, fun q2 => ⟨by first | decide | omega, by first | decide | omega, by first | decide | omega, ?_⟩⟩⟩
    try (any_goals (exfalso; first | omega | exact absurd trivial (by assumption)))
    rw [e]
    exact K v hF hQ
  | m + 1, i, v, hi, hF, hQ => by
    have hw := hQ.2.1
    obtain ⟨w0, w1, w3, w5, -⟩ := zwo_f hw
    have h4 := hQ.2.2.1.2.2.2.2.2.2.1
    refine zgo ck_W_changed 300 33 _ _ _ _ rfl (sg_W_changed_33 ?_)
    try simp (disch := omega) only [zup_e, zup_ak, zup_j, Int.zero_add, hQ.1, hQ.2.2.2.1.2.2.2.1]
    refine ⟨by first | decide | omega, by first | decide | omega, by first | decide | omega, by first | decide | omega, ⟨fun q1 => ⟨⟨by first | decide | omega, by first | decide | omega⟩, ?_⟩, fun q2 => ⟨by first | decide | omega, by first | decide | omega, by first | decide | omega, ?_⟩⟩⟩
    try (any_goals (exfalso; first | omega | exact absurd trivial (by assumption)))
    refine c_fol hQ (fun v1 g1 g2 g3 => ?_)
    try simp (disch := omega) only [zup_e, zup_ak, zup_j, Int.zero_add, g2.1]
    refine ⟨by first | decide | omega, by first | decide | omega, by first | decide | omega, by first | decide | omega, ?_⟩
    refine c_chg g2 g2.2.2.2.2.1.1 g3 hb ⟨by omega, by omega⟩ (fun v2 f1 f2 f3 => ?_)
    exact cg_53 hn ha hb ⟨by omega, by omega⟩ (fun v3 e1 e2 => cg_33 hn ha hb K m (i + 1) (by omega) e1 e2) n 0 (by omega) (Fq_tr hF (Fq_tr (Fo_Fq g1) (Fo_Fq f1))) f2 f3 (fun q => absurd q (by omega))
theorem cg_26 {n : Nat} {a k : Int} {v0 : zH} {QX : Nat → zH → Prop} (hn : 1 ≤ n ∧ n ≤ 72) (ha : 0 ≤ a ∧ a < wN W)
    (K : ∀ v' : zH, Fq v0 v' → QC v' w W c S → Q (if k = 0 then (sCh1 W S c a n (wN W).toNat).1 else (sCh1 W S c a n (wN W).toNat).2) v') :
    ∀ (m i : Nat) {v : zH}, (i : Int) + m = wN W → Fq v0 v → QC v w W c S →
    zJ l G 1 (d + 6) h_W_changed k_W_changed 115 Q QX 26 [(2, 0), (3, 0), (0, (n : Int)), (0, k), (0, a), (0, (sCh1 W S c a n i).1), (0, (sCh1 W S c a n i).2), (0, (i : Int)), (3, 0), (3, 0)] [] v 115
  | 0, i, v, hi, hF, hQ => by
    have hw := hQ.2.1
    obtain ⟨w0, w1, w3, w5, -⟩ := zwo_f hw
    have e : i = (wN W).toNat := by omega
    have K := K v hF hQ
    refine zgo ck_W_changed 300 26 _ _ _ _ rfl (sg_W_changed_26 ?_)
    try simp (disch := omega) only [zup_e, zup_ak, zup_j, Int.zero_add, hQ.1, hQ.2.2.2.1.2.2.1]
    refine ⟨by first | decide | omega, by first | decide | omega, by first | decide | omega, ⟨fun q1 => ⟨fun q2 => ?_, fun q3 => ?_⟩, fun q4 => ?_⟩⟩
    try (any_goals (exfalso; first | omega | exact absurd trivial (by assumption)))
    · rw [if_neg q2] at K
      rw [e]
      exact K
    · rw [if_pos q3] at K
      rw [e]
      exact K
  | m + 1, i, v, hi, hF, hQ => by
    have hw := hQ.2.1
    obtain ⟨w0, w1, w3, w5, -⟩ := zwo_f hw
    have h4 := hQ.2.2.1.2.2.2.2.2.2.1
    refine zgo ck_W_changed 300 26 _ _ _ _ rfl (sg_W_changed_26 ?_)
    try simp (disch := omega) only [zup_e, zup_ak, zup_j, Int.zero_add, hQ.1, hQ.2.2.2.1.2.2.1]
    refine ⟨by first | decide | omega, by first | decide | omega, by first | decide | omega, ⟨fun q1 => ⟨fun q2 => ?_, fun q3 => ?_⟩, fun q4 => ?_⟩⟩
    try (any_goals (exfalso; first | omega | exact absurd trivial (by assumption)))
    exact cg_33 (p := sCh1 W S c a n i) hn ha ⟨by omega, by omega⟩ (fun v3 e1 e2 => cg_26 hn ha K m (i + 1) (by omega) e1 e2) (wS W).toNat 0 (by omega) hF hQ
theorem c_W_changed {a n k : Int} (hQ : QC v w W c S) (K : ∀ v' : zH, Fq v v' → QC v' w W c S → Q (aChanged W S c a n k) v') : zC l G 1 (d + 7) h_W_changed [(2, 0), (0, a), (0, n), (0, k)] v 115 Q := by
  unfold aChanged at K
  have hw := hQ.2.1
  have w0 := (zwo_f hw).1
  have hN := hQ.2.2.1.2.2.2.1
  have hb := fun h => ix_b (a := a) hQ.2.2.1 h
  refine zC_at ok_W_changed ck_W_changed rfl rfl (sg_W_changed_0 ?_)
  try simp (disch := omega) only [zup_e, zup_ak, zup_j, Int.zero_add, hQ.1]
  refine ⟨by first | decide | omega, by first | decide | omega, by first | decide | omega, ?_⟩
  try (any_goals (exfalso; first | omega | exact absurd trivial (by assumption)))
  refine c_ix hQ ?_
  by_cases h1 : isc (wR W) (wC W) a = true
  rotate_left
  · rw [if_neg h1]
    refine ⟨fun q1 => ?_, fun q2 => ?_⟩
    try (any_goals (exfalso; first | omega | exact absurd trivial (by assumption)))
    rw [if_neg (fun q => h1 q.1)] at K
    exact K _ Fq_rf hQ
  rw [if_pos h1]
  have hb := hb h1
  refine ⟨fun q1 => ?_, fun q2 => ?_⟩
  try (any_goals (exfalso; first | omega | exact absurd trivial (by assumption)))
  refine c_W_within ?_
  by_cases h2 : 1 ≤ n ∧ n ≤ 72
  rotate_left
  · rw [if_neg h2]
    refine ⟨fun q1 => ?_, fun q2 => ?_⟩
    try (any_goals (exfalso; first | omega | exact absurd trivial (by assumption)))
    rw [if_neg (fun q => h2 q.2.1)] at K
    exact K _ Fq_rf hQ
  rw [if_pos h2]
  refine ⟨fun q1 => ?_, fun q2 => ?_⟩
  try (any_goals (exfalso; first | omega | exact absurd trivial (by assumption)))
  refine c_W_within ?_
  by_cases h3 : 0 ≤ k ∧ k ≤ 1
  rotate_left
  · rw [if_neg h3]
    refine ⟨fun q1 => ?_, fun q2 => ?_⟩
    try (any_goals (exfalso; first | omega | exact absurd trivial (by assumption)))
    rw [if_neg (fun q => h3 q.2.2)] at K
    exact K _ Fq_rf hQ
  rw [if_pos h3]
  refine ⟨fun q1 => ?_, fun q2 => ?_⟩
  try (any_goals (exfalso; first | omega | exact absurd trivial (by assumption)))
  rw [if_pos ⟨h1, h2, h3⟩] at K
  obtain ⟨m, rfl⟩ : ∃ m : Nat, n = m := ⟨n.toNat, by omega⟩
  rw [Int.toNat_natCast] at K
  exact cg_26 (by omega) ⟨hb.1, hb.2.1⟩ K (wN W).toNat 0 (by omega) Fq_rf hQ
-- an oven's hours
theorem Cok_ovn {o f u : Int} (hc : Cok W c) (hf : 0 ≤ f ∧ f ≤ 23) (hu : 0 ≤ u ∧ u ≤ 23) : Cok W (cOvn c o f u) := by
  refine ⟨hc.1, hc.2.1, fun k h1 h2 => ?_⟩
  have := hc.2.2 k h1 h2
  show (0 ≤ upf (cF c) o f k ∧ upf (cF c) o f k ≤ 23) ∧ 0 ≤ upf (cU c) o u k ∧ upf (cU c) o u k ≤ 23
  unfold upf
  split <;> omega
theorem c_slp {c1 : zCo} (hQ : QC v w W c S) (hc : Cok W c1) (hh : cH c1 ≤ 900000) (hO : CO v 33 W c1) (K : ∀ v' : zH, Fq v v' → QC v' w W c S → (∀ a : Int, 0 ≤ a → a < wN W → v' (33 + 6) a = sNi W (sSn S) (kR S) c1 a) → Q 0 v') : zC l G 1 (d + 5) h_Co_sleep [(2, 33), (2, w), (2, 5)] v 115 Q := by
  refine c_Co_sleep (Or.inr rfl) hQ.2.1 hQ.2.2.1 hQ.2.2.2.1 hc (by omega) hO hQ.2.2.2.2.2.2.1 hQ.2.2.2.2.2.2.2 (fun v' g1 g2 g3 => ?_)
  have hF : Fq v v' := fun b q0 r1 r2 r3 => g1 b q0 (by omega) (by omega) (by omega) (by omega) (by omega)
  exact K v' hF (QC_fr hF g2 hQ) g3
theorem tm_loop {o a k L : Int} {v0 : zH} {QX : Nat → zH → Prop} (ho : 0 ≤ o ∧ o < wO W) (ha : 0 ≤ a ∧ a < wN W) (hL : L = cU c o - cF c o + 24)
    (K : ∀ v' : zH, Fq v0 v' → QC v' w W c S → Q (if k = 0 then (sTim W S c o a 24).1 else (sTim W S c o a 24).2) v') :
    ∀ (m i : Nat) {v : zH}, i + m = 24 → Fq v0 v → QC v w W c S →
    zJ l G 1 (d + 6) h_W_timing k_W_timing 115 Q QX 41 [(2, 0), (0, o), (3, 0), (0, k), (0, a), (0, L), (0, (sTim W S c o a i).1), (0, (sTim W S c o a i).2), (0, (i : Int))] [] v 115
  | 0, i, v, hi, hF, hQ => by
    have e : i = 24 := by omega
    subst e
    have K := K v hF hQ
    refine zgo ck_W_timing 300 41 _ _ _ _ rfl (sg_W_timing_41 ?_)
    refine ⟨fun q1 => ⟨fun q2 => ?_, fun q3 => ?_⟩, fun q4 => ⟨by first | decide | omega, by first | decide | omega, by first | decide | omega, ?_⟩⟩
    try (any_goals (exfalso; first | omega | exact absurd trivial (by assumption)))
    · rw [if_neg q2] at K
      exact K
    · rw [if_pos q3] at K
      exact K
  | m + 1, i, v, hi, hF, hQ => by
    have hw := hQ.2.1
    have hN := hQ.2.2.1.2.2.2.1
    have hO3 := hQ.2.2.1.2.2.2.2.2.2.2.1
    have hc := hQ.2.2.2.2.1
    have hfu := hc.1.2.2 o ho.1 ho.2
    have z4 : zLN (33 + 4) = 3 := by decide
    have z5 : zLN (33 + 5) = 3 := by decide
    have z6 : zLN (33 + 6) = 24 := by decide
    refine zgo ck_W_timing 300 41 _ _ _ _ rfl (sg_W_timing_41 ?_)
    try simp (disch := omega) only [zup_e, zup_ak, zup_j, Int.zero_add]
    refine ⟨fun q1 => ⟨fun q2 => ?_, fun q3 => ?_⟩, fun q4 => ⟨by first | decide | omega, by first | decide | omega, by first | decide | omega, ?_⟩⟩
    try (any_goals (exfalso; first | omega | exact absurd trivial (by assumption)))
    refine c_fol hQ (fun v1 g1 g2 g3 => ?_)
    have et : ((i : Int) + L).tmod 24 = (i + L) % 24 := ztm (by omega)
    try simp (disch := omega) only [zup_e, zup_ak, zup_j, Int.zero_add, g2.1, et]
    refine ⟨by first | decide | omega, by first | decide | omega, by first | decide | omega, ⟨by first | decide | omega, by first | decide | omega⟩, by first | decide | omega, by first | decide | omega, ⟨by first | decide | omega, by first | decide | omega⟩, by first | decide | omega, ⟨by first | decide | omega, by first | decide | omega⟩, by first | decide | omega, by first | decide | omega, by first | decide | omega, by first | decide | omega, by first | decide | omega, ?_⟩
    try (any_goals (exfalso; first | omega | exact absurd trivial (by assumption)))
    have hu : 0 ≤ ((i : Int) + L) % 24 ∧ ((i : Int) + L) % 24 ≤ 23 := by omega
    have hF2 : Fq v1 (zupd (zupd v1 (33 + 4) o i) (33 + 5) o ((i + L) % 24)) := fun b _ r1 _ _ => by rw [zup_a (by omega), zup_a (by omega)]
    have hQ2 : QC (zupd (zupd v1 (33 + 4) o i) (33 + 5) o ((i + L) % 24)) w W c S := QC_fr hF2 (SK_fk g2.2.2.2.2.2.2.1 (fun b q1 q2 => by rw [zup_a (by omega), zup_a (by omega)]) g2.2.2.2.2.2.2.2) g2
    have eC : CO (zupd (zupd v1 (33 + 4) o i) (33 + 5) o ((i + L) % 24)) 33 W (cOvn c o i ((i + L) % 24)) := by
      refine ⟨?_, fun a h1 h2 => ?_, fun k h1 h2 => ?_⟩
      · rw [zup_ak (by omega), zup_ak (by omega)]
        exact g3.1
      · rw [zup_ak (by omega), zup_ak (by omega), zup_ak (by omega), zup_ak (by omega)]
        exact g3.2.1 a h1 h2
      · show _ = upf (cF c) o i k ∧ _ = upf (cU c) o ((i + L) % 24) k
        have := g3.2.2 k h1 h2
        by_cases e : k = o
        · subst e
          rw [zup_ak (by omega), zup_s, zup_s, upf_s, upf_s]
          exact ⟨rfl, rfl⟩
        · rw [zup_ak (by omega), zup_j e, zup_j e, zup_ak (by omega), upf_n e, upf_n e]
          exact this
    refine c_slp hQ2 (Cok_ovn hc.1 (by omega) hu) (by show cH c ≤ _; omega) eC (fun v2 f1 f2 f3 => ?_)
    have e6 : v2 (33 + 6) a = sTmF W S c o a i := by
      rw [f3 a ha.1 ha.2, hL]
      rfl
    have es : sTim W S c o a (i + 1) = if (sTim W S c o a i).1 = -1 ∨ (sTim W S c o a i).2 < sTmF W S c o a i then ((i : Int), sTmF W S c o a i) else sTim W S c o a i := rfl
    have next : zJ l G 1 (d + 6) h_W_timing k_W_timing 115 Q QX 41 [(2, 0), (0, o), (3, 0), (0, k), (0, a), (0, L), (0, (sTim W S c o a (i + 1)).1), (0, (sTim W S c o a (i + 1)).2), (0, ((i + 1 : Nat) : Int))] [] v2 115 := tm_loop ho ha hL K m (i + 1) (by omega) (Fq_tr hF (Fq_tr (Fo_Fq g1) (Fq_tr hF2 f1))) f2
    have ei : ((i + 1 : Nat) : Int) = (i : Int) + 1 := by omega
    rw [ei, es] at next
    show _
    simp only [e6]
    refine ⟨fun q1 => ⟨by first | decide | omega, by first | decide | omega, by first | decide | omega, ⟨by first | decide | omega, by first | decide | omega⟩, ⟨by first | decide | omega, by first | decide | omega⟩, ?_⟩, fun q2 => ⟨by first | decide | omega, by first | decide | omega, by first | decide | omega, ⟨by first | decide | omega, by first | decide | omega⟩, ⟨fun q3 => ⟨⟨by first | decide | omega, by first | decide | omega⟩, ?_⟩, fun q4 => ⟨by first | decide | omega, by first | decide | omega, by first | decide | omega, ⟨by first | decide | omega, by first | decide | omega⟩, ⟨by first | decide | omega, by first | decide | omega⟩, ?_⟩⟩⟩⟩
    try (any_goals (exfalso; first | omega | exact absurd trivial (by assumption)))
    · rw [if_pos (Or.inl q1)] at next
      exact next
    · rw [if_neg (by omega)] at next
      exact next
    · rw [if_pos (Or.inr q4)] at next
      exact next
theorem c_W_timing {o a k : Int} (hQ : QC v w W c S) (K : ∀ v' : zH, Fq v v' → QC v' w W c S → Q (aTiming W S c o a k) v') : zC l G 1 (d + 7) h_W_timing [(2, 0), (0, o), (0, a), (0, k)] v 115 Q := by
  unfold aTiming at K
  have hw := hQ.2.1
  obtain ⟨w0, w1, w3, w5, -⟩ := zwo_f hw
  have hN := hQ.2.2.1.2.2.2.1
  have hO3 := hQ.2.2.1.2.2.2.2.2.2.2.1
  have z4 : zLN (24 + 4) = 3 := by decide
  have z5 : zLN (24 + 5) = 3 := by decide
  have hb := fun h => ix_b (a := a) hQ.2.2.1 h
  refine zC_at ok_W_timing ck_W_timing rfl rfl (sg_W_timing_0 ?_)
  try simp (disch := omega) only [zup_e, zup_ak, zup_j, Int.zero_add, hQ.1]
  refine ⟨by first | decide | omega, by first | decide | omega, by first | decide | omega, ?_⟩
  try (any_goals (exfalso; first | omega | exact absurd trivial (by assumption)))
  refine c_ix hQ ?_
  by_cases h1 : isc (wR W) (wC W) a = true
  rotate_left
  · rw [if_neg h1]
    refine ⟨fun q1 => ?_, fun q2 => ⟨by first | decide | omega, by first | decide | omega, by first | decide | omega, by first | decide | omega, ?_⟩⟩
    try (any_goals (exfalso; first | omega | exact absurd trivial (by assumption)))
    · rw [if_neg (fun q => h1 q.2.1)] at K
      exact K _ Fq_rf hQ
  rw [if_pos h1]
  have hb := hb h1
  try simp (disch := omega) only [zup_e, zup_ak, zup_j, Int.zero_add, hQ.1]
  refine ⟨fun q1 => ?_, fun q2 => ⟨by first | decide | omega, by first | decide | omega, by first | decide | omega, by first | decide | omega, ?_⟩⟩
  try (any_goals (exfalso; first | omega | exact absurd trivial (by assumption)))
  refine c_has1 hQ ?_
  by_cases h2 : 0 ≤ o ∧ o < wO W
  rotate_left
  · rw [if_neg h2]
    refine ⟨fun q1 => ?_, fun q2 => ?_⟩
    try (any_goals (exfalso; first | omega | exact absurd trivial (by assumption)))
    rw [if_neg (fun q => h2 q.1)] at K
    exact K _ Fq_rf hQ
  rw [if_pos h2]
  refine ⟨fun q1 => ?_, fun q2 => ?_⟩
  try (any_goals (exfalso; first | omega | exact absurd trivial (by assumption)))
  refine c_W_within ?_
  have hfu := hQ.2.2.2.2.1.1.2.2 o h2.1 h2.2
  obtain ⟨u1, u2⟩ := hQ.2.2.2.2.2.1.2.2 o h2.1 h2.2
  by_cases h3 : 0 ≤ k ∧ k ≤ 1
  rotate_left
  · rw [if_neg h3]
    rw [if_neg (fun q => h3 q.2.2)] at K
    refine ⟨fun q => absurd rfl q, fun _ => ?_⟩
    exact K _ Fq_rf hQ
  rw [if_pos h3]
  show _
  rw [u1, u2]
  refine ⟨fun q1 => ⟨by first | decide | omega, by first | decide | omega, by first | decide | omega, ⟨by first | decide | omega, by first | decide | omega⟩, by first | decide | omega, by first | decide | omega, by first | decide | omega, ⟨by first | decide | omega, by first | decide | omega⟩, ⟨by first | decide | omega, by first | decide | omega⟩, ⟨by first | decide | omega, by first | decide | omega⟩, ?_⟩, fun q2 => ?_⟩
  try (any_goals (exfalso; first | omega | exact absurd trivial (by assumption)))
  rw [if_pos ⟨h2, h1, h3⟩] at K
  exact tm_loop h2 ⟨hb.1, hb.2.1⟩ rfl K 24 0 (by omega) Fq_rf hQ
-- days that are alike
theorem zsm_all {p : Int → Bool} : ∀ n : Nat, zsm (fun a => if p a = true then 1 else 0) n ≤ n ∧ (zsm (fun a => if p a = true then 1 else 0) n = n ↔ zal p n = true)
  | 0 => ⟨by show (0 : Int) ≤ 0; omega, fun _ => rfl, fun _ => rfl⟩
  | n + 1 => by
    have h := zsm_all (p := p) n
    have e1 : zsm (fun a => if p a = true then 1 else 0) (n + 1) = zsm (fun a => if p a = true then 1 else 0) n + if p n = true then 1 else 0 := rfl
    have e2 : zal p (n + 1) = (zal p n && p n) := rfl
    rw [e1, e2, Bool.and_eq_true, ← h.2]
    have h1 := h.1
    clear e1 e2 h
    generalize zsm (fun a => if p a = true then 1 else 0) n = t at *
    by_cases q : p n = true
    · rw [if_pos q]
      exact ⟨by omega, fun r => ⟨by omega, q⟩, fun r => by have := r.1; omega⟩
    · rw [if_neg q]
      exact ⟨by omega, fun r => absurd r (by omega), fun r => absurd r.2 q⟩
theorem dl_9 {i j : Nat} {QX : Nat → zH → Prop} (hQ : QC v w W c S) (hi : i ≤ 20) (hj : j ≤ 20) (hm : ∀ a : Int, 0 ≤ a → a < wN W → v 50 ((i : Int) * 24 + a) = cW (sSt W (sSn S) (kR S) c (24 * i)) a ∧ v 50 ((j : Int) * 24 + a) = cW (sSt W (sSn S) (kR S) c (24 * j)) a)
    (K1 : sLk W S c i j = true → Q i v) (K0 : sLk W S c i j = false → zJ l G 1 (d + 1) h_W_dayLike k_W_dayLike 115 Q QX 2 [(2, 0), (0, (j : Int)), (0, (i : Int) + 1), (3, 0), (3, 0)] [] v 115) :
    ∀ (m t : Nat), (t : Int) + m = wN W → zJ l G 1 (d + 1) h_W_dayLike k_W_dayLike 115 Q QX 9 [(2, 0), (0, (j : Int)), (0, (i : Int)), (0, zsm (fun a => if decide (cW (sSt W (sSn S) (kR S) c (24 * i)) a = cW (sSt W (sSn S) (kR S) c (24 * j)) a) = true then 1 else 0) t), (0, (t : Int))] [] v 115
  | 0, t, ht => by
    have hw := hQ.2.1
    have w0 := (zwo_f hw).1
    have hN := hQ.2.2.1.2.2.2.1
    have e : t = (wN W).toNat := by omega
    have hz := zsm_all (p := fun a => decide (cW (sSt W (sSn S) (kR S) c (24 * i)) a = cW (sSt W (sSn S) (kR S) c (24 * j)) a)) t
    refine zgo ck_W_dayLike 300 9 _ _ _ _ rfl (sg_W_dayLike_9 ?_)
    try simp (disch := omega) only [zup_e, zup_ak, zup_j, Int.zero_add, hQ.1, hQ.2.2.2.1.2.2.1]
    refine ⟨by first | decide | omega, by first | decide | omega, by first | decide | omega, ⟨fun q1 => ⟨by first | decide | omega, by first | decide | omega, by first | decide | omega, ⟨fun q2 => ⟨⟨by first | decide | omega, by first | decide | omega⟩, ?_⟩, fun q3 => ?_⟩⟩, fun q4 => ⟨by first | decide | omega, ⟨by first | decide | omega, by first | decide | omega⟩, ⟨by first | decide | omega, by first | decide | omega⟩, by first | decide | omega, ⟨by first | decide | omega, by first | decide | omega⟩, by first | decide | omega, ⟨by first | decide | omega, by first | decide | omega⟩, ⟨by first | decide | omega, by first | decide | omega⟩, by first | decide | omega, ⟨by first | decide | omega, by first | decide | omega⟩, ⟨fun q5 => ⟨⟨by first | decide | omega, by first | decide | omega⟩, ?_⟩, fun q6 => ⟨⟨by first | decide | omega, by first | decide | omega⟩, ⟨by first | decide | omega, by first | decide | omega⟩, ?_⟩⟩⟩⟩⟩
    try (any_goals (exfalso; first | omega | exact absurd trivial (by assumption)))
    · refine K0 ?_
      rw [← Bool.not_eq_true]
      intro q
      unfold sLk at q
      rw [← e, ← hz.2] at q
      omega
    · refine K1 ?_
      unfold sLk
      rw [← e, ← hz.2]
      omega
  | m + 1, t, ht => by
    have hw := hQ.2.1
    have w0 := (zwo_f hw).1
    have hN := hQ.2.2.1.2.2.2.1
    have z50 : zLN 50 = 504 := by decide
    have hz := zsm_b (f := fun a => if decide (cW (sSt W (sSn S) (kR S) c (24 * i)) a = cW (sSt W (sSn S) (kR S) c (24 * j)) a) = true then 1 else 0) (k := 1) t (fun a _ _ => by split <;> omega)
    obtain ⟨e1, e2⟩ := hm t (by omega) (by omega)
    have es : zsm (fun a => if decide (cW (sSt W (sSn S) (kR S) c (24 * i)) a = cW (sSt W (sSn S) (kR S) c (24 * j)) a) = true then 1 else 0) (t + 1) = zsm (fun a => if decide (cW (sSt W (sSn S) (kR S) c (24 * i)) a = cW (sSt W (sSn S) (kR S) c (24 * j)) a) = true then 1 else 0) t + if decide (cW (sSt W (sSn S) (kR S) c (24 * i)) t = cW (sSt W (sSn S) (kR S) c (24 * j)) t) = true then 1 else 0 := rfl
    have next : zJ l G 1 (d + 1) h_W_dayLike k_W_dayLike 115 Q QX 9 [(2, 0), (0, (j : Int)), (0, (i : Int)), (0, zsm (fun a => if decide (cW (sSt W (sSn S) (kR S) c (24 * i)) a = cW (sSt W (sSn S) (kR S) c (24 * j)) a) = true then 1 else 0) (t + 1)), (0, ((t + 1 : Nat) : Int))] [] v 115 := dl_9 hQ hi hj hm K1 K0 m (t + 1) (by omega)
    have ei : ((t + 1 : Nat) : Int) = (t : Int) + 1 := by omega
    rw [ei, es] at next
    refine zgo ck_W_dayLike 300 9 _ _ _ _ rfl (sg_W_dayLike_9 ?_)
    try simp (disch := omega) only [zup_e, zup_ak, zup_j, Int.zero_add, hQ.1, hQ.2.2.2.1.2.2.1, e1, e2]
    refine ⟨by first | decide | omega, by first | decide | omega, by first | decide | omega, ⟨fun q1 => ⟨by first | decide | omega, by first | decide | omega, by first | decide | omega, ⟨fun q2 => ⟨⟨by first | decide | omega, by first | decide | omega⟩, ?_⟩, fun q3 => ?_⟩⟩, fun q4 => ⟨by first | decide | omega, ⟨by first | decide | omega, by first | decide | omega⟩, ⟨by first | decide | omega, by first | decide | omega⟩, by first | decide | omega, ⟨by first | decide | omega, by first | decide | omega⟩, by first | decide | omega, ⟨by first | decide | omega, by first | decide | omega⟩, ⟨by first | decide | omega, by first | decide | omega⟩, by first | decide | omega, ⟨by first | decide | omega, by first | decide | omega⟩, ⟨fun q5 => ⟨⟨by first | decide | omega, by first | decide | omega⟩, ?_⟩, fun q6 => ⟨⟨by first | decide | omega, by first | decide | omega⟩, ⟨by first | decide | omega, by first | decide | omega⟩, ?_⟩⟩⟩⟩⟩
    try (any_goals (exfalso; first | omega | exact absurd trivial (by assumption)))
    · rw [if_neg (by simpa using q5), Int.add_zero] at next
      exact next
    · rw [if_pos (by simpa using q6)] at next
      exact next
theorem dl_s {j n : Nat} : sDl W S c j (n + 1) = if sDl W S c j n = -1 ∧ sLk W S c (n : Int).toNat j = true then (n : Int) else sDl W S c j n := rfl
theorem dl_m {j n : Nat} (h : sDl W S c j n ≠ -1) : ∀ m : Nat, sDl W S c j (n + m) = sDl W S c j n
  | 0 => rfl
  | m + 1 => by
    rw [← Nat.add_assoc, dl_s, if_neg (fun q => h (by rw [← dl_m h m]; exact q.1)), dl_m h m]
theorem dl_2 {j : Nat} {QX : Nat → zH → Prop} (hQ : QC v w W c S) (hj : j ≤ 20) (hm : ∀ i : Nat, i ≤ j → ∀ a : Int, 0 ≤ a → a < wN W → v 50 ((i : Int) * 24 + a) = cW (sSt W (sSn S) (kR S) c (24 * i)) a) (K : Q (sDl W S c j j) v) :
    ∀ (m i : Nat), i + m = j → sDl W S c j i = -1 → zJ l G 1 (d + 1) h_W_dayLike k_W_dayLike 115 Q QX 2 [(2, 0), (0, (j : Int)), (0, (i : Int)), (3, 0), (3, 0)] [] v 115
  | 0, i, hi, hx => by
    have e : i = j := by omega
    subst e
    rw [hx] at K
    refine zgo ck_W_dayLike 300 2 _ _ _ _ rfl (sg_W_dayLike_2 ?_)
    refine ⟨fun q1 => ?_, fun q2 => ?_⟩
    try (any_goals (exfalso; first | omega | exact absurd trivial (by assumption)))
    exact K
  | m + 1, i, hi, hx => by
    have es := dl_s (W := W) (S := S) (c := c) (j := j) (n := i)
    rw [Int.toNat_natCast] at es
    have hN := hQ.2.2.1.2.2.2.1
    refine zgo ck_W_dayLike 300 2 _ _ _ _ rfl (sg_W_dayLike_2 ?_)
    refine ⟨fun q1 => ?_, fun q2 => ?_⟩
    try (any_goals (exfalso; first | omega | exact absurd trivial (by assumption)))
    refine dl_9 hQ (by omega) hj (fun a h1 h2 => ⟨hm i (by omega) a h1 h2, hm j (by omega) a h1 h2⟩) (fun h => ?_) (fun h => ?_) (wN W).toNat 0 (by omega)
    · rw [if_pos ⟨hx, h⟩] at es
      have := dl_m (W := W) (S := S) (c := c) (j := j) (n := i + 1) (by omega) m
      have e : i + 1 + m = j := by omega
      rw [e, es] at this
      rw [this] at K
      exact K
    · rw [h, if_neg (by simp), hx] at es
      exact dl_2 hQ hj hm K m (i + 1) (by omega) es
theorem sd_s {n : Nat} : sSdy W S c (n + 1) = if (sSdy W S c n).1 = -1 ∧ sDl W S c (n : Int).toNat (n : Int).toNat ≠ -1 then (sDl W S c (n : Int).toNat (n : Int).toNat, (n : Int) - sDl W S c (n : Int).toNat (n : Int).toNat) else sSdy W S c n := rfl
theorem sd_m {n : Nat} (h : (sSdy W S c n).1 ≠ -1) : ∀ m : Nat, sSdy W S c (n + m) = sSdy W S c n
  | 0 => rfl
  | m + 1 => by
    rw [← Nat.add_assoc, sd_s, if_neg (fun q => h (by rw [← sd_m h m]; exact q.1)), sd_m h m]
theorem dl_b {j : Nat} : ∀ n : Nat, sDl W S c j n = -1 ∨ (0 ≤ sDl W S c j n ∧ sDl W S c j n < n)
  | 0 => Or.inl rfl
  | n + 1 => by
    have := dl_b (j := j) n
    rw [dl_s]
    split <;> omega
theorem sy_60 {k : Int} {j : Nat} {v0 : zH} {QX : Nat → zH → Prop} (hj : j ≤ 20)
    (K : ∀ v' : zH, Fr 33 v0 v' → QC v' w W c S → CO v' 33 W (sSt W (sSn S) (kR S) c (24 * (j + 1))) → zJ l G 1 (d + 6) h_W_steady k_W_steady 115 Q QX 18 [(2, 0), (0, k), (0, (j : Int) + 1), (3, 0), (3, 0)] [] v' 115) :
    ∀ (m i : Nat) {v : zH}, i + m = 24 → Fr 33 v0 v → QC v w W c S → CO v 33 W (sSt W (sSn S) (kR S) c (24 * j + i)) →
    zJ l G 1 (d + 6) h_W_steady k_W_steady 115 Q QX 60 [(2, 0), (0, k), (0, (j : Int)), (3, 0), (0, (i : Int))] [] v 115
  | 0, i, v, hi, hF, hQ, hA => by
    have e : i = 24 := by omega
    subst e
    refine zgo ck_W_steady 300 60 _ _ _ _ rfl (sg_W_steady_60 ?_)
    refine ⟨fun q1 => ⟨⟨by first | decide | omega, by first | decide | omega⟩, ?_⟩, fun q2 => ⟨by first | decide | omega, by first | decide | omega, by first | decide | omega, by first | decide | omega, by first | decide | omega, ?_⟩⟩
    try (any_goals (exfalso; first | omega | exact absurd trivial (by assumption)))
    exact K v hF hQ hA
  | m + 1, i, v, hi, hF, hQ, hA => by
    have hw := hQ.2.1
    refine zgo ck_W_steady 300 60 _ _ _ _ rfl (sg_W_steady_60 ?_)
    try simp (disch := omega) only [zup_e, zup_ak, zup_j, Int.zero_add, hQ.1]
    refine ⟨fun q1 => ⟨⟨by first | decide | omega, by first | decide | omega⟩, ?_⟩, fun q2 => ⟨by first | decide | omega, by first | decide | omega, by first | decide | omega, by first | decide | omega, by first | decide | omega, ?_⟩⟩
    try (any_goals (exfalso; first | omega | exact absurd trivial (by assumption)))
    refine c_st hQ (Cok_S hQ (by omega)) hA (fun v1 g1 g2 g3 g4 => ?_)
    refine ⟨⟨by first | decide | omega, by first | decide | omega⟩, ?_⟩
    exact sy_60 hj K m (i + 1) (by omega) (Fr_tr hF g1) g2 g3
theorem sy_23 {k : Int} {j : Nat} {v0 : zH} {QX : Nat → zH → Prop} {f : Int → Int} (hW : Wok W) (hj : j ≤ 20) (hf : ∀ a : Int, 0 ≤ a → a < wN W → v0 (33 + 1) a = f a)
    (K : ∀ v' : zH, (∀ b : Int, b ≠ 50 → v' b = v0 b) → (∀ i : Int, ¬ ((j : Int) * 24 ≤ i ∧ i < j * 24 + 24) → v' 50 i = v0 50 i) → (∀ a : Int, 0 ≤ a → a < wN W → v' 50 ((j : Int) * 24 + a) = f a) → QC v' w W c S →
      zC l G 1 (d + 5) h_W_dayLike [(2, 0), (0, (j : Int))] v' 115 (fun r1 v1 => ((r1 = -1 → zJ l G 1 (d + 6) h_W_steady k_W_steady 115 Q QX 60 [(2, 0), (0, k), (0, (j : Int)), (3, 0), (0, 0)] [] v1 115) ∧ (¬ r1 = -1 → ((¬ k = 0 → zI ((j : Int) - r1) ∧ Q ((j : Int) - r1) v1) ∧ (k = 0 → Q r1 v1)))))) :
    ∀ (m : Nat) {i : Int} {v : zH}, 0 ≤ i → i + m = wN W → QC v w W c S → (∀ b : Int, b ≠ 50 → v b = v0 b) → (∀ i : Int, ¬ ((j : Int) * 24 ≤ i ∧ i < j * 24 + 24) → v 50 i = v0 50 i) → (∀ a : Int, 0 ≤ a → a < i → v 50 ((j : Int) * 24 + a) = f a) →
    zJ l G 1 (d + 6) h_W_steady k_W_steady 115 Q QX 23 [(2, 0), (0, k), (0, (j : Int)), (0, i), (3, 0)] [] v 115
  | 0, i, v, h0, hi, hQ, hv, ho, hz => by
    have hw := hQ.2.1
    have w0 := (zwo_f hw).1
    have K := K v hv ho (fun a h1 h2 => hz a h1 (by omega)) hQ
    refine zgo ck_W_steady 300 23 _ _ _ _ rfl (sg_W_steady_23 ?_)
    simp only [Int.zero_add, hQ.1, hQ.2.2.2.1.2.2.1]
    refine ⟨by decide, by omega, w0, fun _ => ⟨by decide, K⟩, fun q => absurd q (by omega)⟩
  | m + 1, i, v, h0, hi, hQ, hv, ho, hz => by
    have hw := hQ.2.1
    have w0 := (zwo_f hw).1
    have hN := hW.2.2.2.1
    have z50 : zLN 50 = 504 := by decide
    have z1 : zLN (33 + 1) = 24 := by decide
    have e1 : v (33 + 1) i = f i := by rw [hv _ (by omega)]; exact hf i h0 (by omega)
    refine zgo ck_W_steady 300 23 _ _ _ _ rfl (sg_W_steady_23 ?_)
    try simp (disch := omega) only [zup_e, zup_ak, zup_j, Int.zero_add, hQ.1, hQ.2.2.2.1.2.2.1, e1]
    refine ⟨by first | decide | omega, by first | decide | omega, by first | decide | omega, ⟨fun q1 => ⟨by first | decide | omega, ?_⟩, fun q2 => ⟨by first | decide | omega, ⟨by first | decide | omega, by first | decide | omega⟩, ⟨by first | decide | omega, by first | decide | omega⟩, by first | decide | omega, by first | decide | omega, by first | decide | omega, ⟨by first | decide | omega, by first | decide | omega⟩, by first | decide | omega, ⟨by first | decide | omega, by first | decide | omega⟩, ⟨by first | decide | omega, by first | decide | omega⟩, ?_⟩⟩⟩
    try (any_goals (exfalso; first | omega | exact absurd trivial (by assumption)))
    have hF : Fq v (zupd v 50 ((j : Int) * 24 + i) (f i)) := fun b _ _ _ q => zup_a q
    refine sy_23 hW hj hf K m (by omega) (by omega) (QC_fr hF (SK_fk hQ.2.2.2.2.2.2.1 (fun b q1 q2 => zup_a (by omega)) hQ.2.2.2.2.2.2.2) hQ) (fun b q => (zup_a q).trans (hv b q)) (fun t q => ?_) (fun a q1 q2 => ?_)
    · rw [zup_j (by omega)]
      exact ho t q
    · by_cases e : a = i
      · subst e
        rw [zup_s]
      · rw [zup_j (by omega)]
        exact hz a q1 (by omega)
theorem sy_18 {k : Int} {v0 : zH} {QX : Nat → zH → Prop} (K : ∀ v' : zH, Fq v0 v' → QC v' w W c S → Q (if k = 0 then (sSdy W S c 21).1 else (sSdy W S c 21).2) v') :
    ∀ (m j : Nat) {v : zH}, j + m = 21 → Fq v0 v → QC v w W c S → CO v 33 W (sSt W (sSn S) (kR S) c (24 * j)) → (∀ i : Nat, i < j → ∀ a : Int, 0 ≤ a → a < wN W → v 50 ((i : Int) * 24 + a) = cW (sSt W (sSn S) (kR S) c (24 * i)) a) → sSdy W S c j = (-1, -1) →
    zJ l G 1 (d + 6) h_W_steady k_W_steady 115 Q QX 18 [(2, 0), (0, k), (0, (j : Int)), (3, 0), (3, 0)] [] v 115
  | 0, j, v, hj, hF, hQ, hA, hM, hx => by
    have e : j = 21 := by omega
    subst e
    have K := K v hF hQ
    rw [hx] at K
    refine zgo ck_W_steady 300 18 _ _ _ _ rfl (sg_W_steady_18 ?_)
    refine ⟨fun q1 => ?_, fun q2 => ?_⟩
    try (any_goals (exfalso; first | omega | exact absurd trivial (by assumption)))
    by_cases q : k = 0
    · rw [if_pos q] at K
      exact K
    · rw [if_neg q] at K
      exact K
  | m + 1, j, v, hj, hF, hQ, hA, hM, hx => by
    have hW := hQ.2.2.1
    have hN := hW.2.2.2.1
    refine zgo ck_W_steady 300 18 _ _ _ _ rfl (sg_W_steady_18 ?_)
    refine ⟨fun q1 => ?_, fun q2 => ?_⟩
    try (any_goals (exfalso; first | omega | exact absurd trivial (by assumption)))
    refine sy_23 (f := cW (sSt W (sSn S) (kR S) c (24 * j))) hW (by omega) (fun a h1 h2 => (hA.2.1 a h1 h2).1) (fun v1 g1 g2 g3 g4 => ?_) (wN W).toNat (by omega) (by omega) hQ (fun _ _ => rfl) (fun _ _ => rfl) (fun a h1 h2 => absurd h1 (by omega))
    have hM1 : ∀ i : Nat, i ≤ j → ∀ a : Int, 0 ≤ a → a < wN W → v1 50 ((i : Int) * 24 + a) = cW (sSt W (sSn S) (kR S) c (24 * i)) a := by
      intro i hi a h1 h2
      by_cases e : i = j
      · subst e
        exact g3 a h1 h2
      · rw [g2 _ (by omega)]
        exact hM i (by omega) a h1 h2
    have hF1 : Fq v0 v1 := Fq_tr hF (fun b _ _ _ q => g1 b q)
    have es := sd_s (W := W) (S := S) (c := c) (n := j)
    rw [Int.toNat_natCast, hx] at es
    refine zC_at ok_W_dayLike ck_W_dayLike rfl rfl (sg_W_dayLike_0 ?_)
    refine dl_2 g4 (by omega) hM1 ?_ j 0 (by omega) rfl
    have db := dl_b (W := W) (S := S) (c := c) (j := j) j
    refine ⟨fun q => ?_, fun q => ?_⟩
    · refine sy_60 (by omega) (fun v2 f1 f2 f3 => ?_) 24 0 (by omega) Fr_rf g4 (CO_fr (fun a q => g1 a (by omega)) hA)
      rw [if_neg (fun r => r.2 q)] at es
      refine sy_18 K m (j + 1) (by omega) (Fq_tr hF1 (Fr_Fq f1)) f2 f3 (fun i hi a h1 h2 => ?_) es
      rw [f1 50 (by unfold fK; omega) (by omega) (by omega) (by omega) (by omega)]
      exact hM1 i (by omega) a h1 h2
    · rw [if_pos ⟨rfl, q⟩] at es
      have := sd_m (W := W) (S := S) (c := c) (n := j + 1) (by rw [es]; exact q) m
      have e : j + 1 + m = 21 := by omega
      rw [e, es] at this
      have K := K v1 hF1 g4
      rw [this] at K
      refine ⟨fun r => ⟨⟨by omega, by omega⟩, ?_⟩, fun r => ?_⟩
      · rw [if_neg r] at K
        exact K
      · rw [if_pos r] at K
        exact K
theorem c_W_steady {k : Int} (hQ : QC v w W c S) (K : ∀ v' : zH, Fq v v' → QC v' w W c S → Q (aSteady W S c k) v') : zC l G 1 (d + 7) h_W_steady [(2, 0), (0, k)] v 115 Q := by
  unfold aSteady at K
  have hw := hQ.2.1
  have w0 := (zwo_f hw).1
  have hn0 := W_n0 hQ.2.2.1
  refine zC_at ok_W_steady ck_W_steady rfl rfl (sg_W_steady_0 ?_)
  try simp (disch := omega) only [zup_e, zup_ak, zup_j, Int.zero_add, hQ.1, hQ.2.2.2.1.2.2.1]
  refine ⟨by first | decide | omega, by first | decide | omega, by first | decide | omega, ⟨fun q1 => ?_, fun q2 => ?_⟩⟩
  try (any_goals (exfalso; first | omega | exact absurd trivial (by assumption)))
  · rw [if_neg (fun q => by omega)] at K
    exact K _ Fq_rf hQ
  refine c_W_within ?_
  by_cases h3 : 0 ≤ k ∧ k ≤ 1
  rotate_left
  · rw [if_neg h3]
    refine ⟨fun q1 => ⟨by first | decide | omega, by first | decide | omega, by first | decide | omega, ?_⟩, fun q2 => ?_⟩
    try (any_goals (exfalso; first | omega | exact absurd trivial (by assumption)))
    rw [if_neg (fun q => h3 q.2)] at K
    exact K _ Fq_rf hQ
  rw [if_pos h3]
  refine ⟨fun q1 => ⟨by first | decide | omega, by first | decide | omega, by first | decide | omega, ?_⟩, fun q2 => ?_⟩
  try (any_goals (exfalso; first | omega | exact absurd trivial (by assumption)))
  rw [if_pos ⟨by omega, h3⟩] at K
  refine c_fol hQ (fun v1 g1 g2 g3 => ?_)
  try simp (disch := omega) only [zup_e, zup_ak, zup_j, Int.zero_add]
  exact sy_18 K 21 0 (by omega) (Fo_Fq g1) g2 g3 (fun i hi => absurd hi (by omega)) rfl
end
