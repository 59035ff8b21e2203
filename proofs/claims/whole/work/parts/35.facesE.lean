/-! THE CLASS: a wall laid anew; a cell -/
section
variable {l : Launch} {G : zG} {d : Nat} {v : zH} {Q : Int → zH → Prop} {w : Int} {W : zWl} {c : zCo} {S : zSk} {T : zTo}
theorem lay_b {x : Int} (hx : 0 ≤ x) (hs : 1 ≤ wS W ∧ wS W ≤ 3) : ∀ m : Nat, (0 ≤ (sLay W x m).1 ∧ (sLay W x m).1 ≤ x) ∧ (∀ a : Int, 0 ≤ (sLay W x m).2.1 a ∧ (sLay W x m).2.1 a < wS W) ∧ (0 ≤ (sLay W x m).2.2.1 ∧ (sLay W x m).2.2.1 < (sLay W x m).2.2.2) ∧ (sLay W x m).2.2.2 = 10 ^ m
  | 0 => ⟨⟨hx, Int.le_refl _⟩, fun a => by show (0 : Int) ≤ 0 ∧ (0 : Int) < wS W; omega, by show (0 : Int) ≤ 0 ∧ (0 : Int) < 1; omega, rfl⟩
  | m + 1 => by
    obtain ⟨h1, h2, h3, h4⟩ := lay_b hx hs m
    have e : sLay W x (m + 1) = ((sLay W x m).1 / wS W, upf (sLay W x m).2.1 (wN W - 1 - m) ((sLay W x m).1 % wS W), (sLay W x m).2.2.1 + (sLay W x m).2.2.2 * ((sLay W x m).1 % wS W + 1), (sLay W x m).2.2.2 * 10) := rfl
    rw [e]
    generalize sLay W x m = q at *
    obtain ⟨q1, q2, q3, q4⟩ := q
    simp only at h1 h2 h3 h4 ⊢
    have r0 := Int.emod_nonneg q1 (b := wS W) (by omega)
    have r1 := Int.emod_lt_of_pos q1 (b := wS W) (by omega)
    have d0 := Int.ediv_nonneg h1.1 (b := wS W) (by omega)
    have d1 := Int.ediv_le_self (wS W) h1.1
    have m1 : q4 * (q1 % wS W + 1) ≤ q4 * 3 := Int.mul_le_mul_of_nonneg_left (by omega) (by omega)
    have m0 : 0 ≤ q4 * (q1 % wS W + 1) := Int.mul_nonneg (by omega) (by omega)
    refine ⟨by omega, fun a => ?_, by omega, ?_⟩
    · unfold upf
      split
      · omega
      · exact h2 a
    · rw [h4, Int.pow_succ]
theorem pow6 {m : Nat} (h : m ≤ 6) : (10 : Int) ^ m ≤ 1000000 := by
  have : m = 0 ∨ m = 1 ∨ m = 2 ∨ m = 3 ∨ m = 4 ∨ m = 5 ∨ m = 6 := by omega
  rcases this with rfl | rfl | rfl | rfl | rfl | rfl | rfl <;> decide
theorem Cok_laid {x : Int} (hW : Wok W) (hc : Cok W c) (hx : 0 ≤ x) (hs : 1 ≤ wS W ∧ wS W ≤ 3) : Cok W (cLaid W c x) := by
  refine ⟨hc.1, fun a h1 h2 => ⟨(lay_b hx hs _).2.1 a, by show (0 : Int) ≤ 0; omega, ?_⟩, hc.2.2⟩
  have q := (lay_b hx hs (wN W).toNat).2.1 a
  have := hW.2.2.2.2.2.2.2.2.2.1 _ q.1 q.2
  show (0 : Int) ≤ wT W (3 * (sLay W x (wN W).toNat).2.1 a + 1)
  omega
theorem la_12 {x : Int} {v0 : zH} {QX : Nat → zH → Prop} (hx : 0 ≤ x ∧ x ≤ 1000) (hs : 1 ≤ wS W ∧ wS W ≤ 3) (hN : wN W ≤ 6)
    (K : ∀ v' : zH, (∀ b : Int, b ≠ 33 + 1 → b ≠ 33 + 3 → v' b = v0 b) → QC v' w W c S → (∀ a : Int, 0 ≤ a → a < wN W → v' (33 + 1) a = 0 ∧ v' (33 + 3) a = (sLay W x (wN W).toNat).2.1 a) → Q (sLay W x (wN W).toNat).2.2.1 v') :
    ∀ (m i : Nat) {v : zH}, (i : Int) + m = wN W → (∀ b : Int, b ≠ 33 + 1 → b ≠ 33 + 3 → v b = v0 b) → QC v w W c S → (∀ a : Int, wN W - i ≤ a → a < wN W → v (33 + 1) a = 0 ∧ v (33 + 3) a = (sLay W x i).2.1 a) →
    zJ l G 1 (d + 1) h_W_layAnew k_W_layAnew 115 Q QX 12 [(2, 0), (3, 0), (0, (sLay W x i).1), (0, (sLay W x i).2.2.1), (0, (sLay W x i).2.2.2), (0, wN W - 1 - i), (3, 0), (3, 0)] [] v 115
  | 0, i, v, hi, hf, hQ, hz => by
    have e : i = (wN W).toNat := by omega
    refine zgo ck_W_layAnew 300 12 _ _ _ _ rfl (sg_W_layAnew_12 ?_)
    refine ⟨fun q1 => ?_, fun q2 => ⟨by first | decide | omega, by first | decide | omega, by first | decide | omega, by first | decide | omega, by first | decide | omega, ⟨by first | decide | omega, by first | decide | omega⟩, by first | decide | omega, ⟨by first | decide | omega, by first | decide | omega⟩, by first | decide | omega, by first | decide | omega, by first | decide | omega, ⟨by first | decide | omega, by first | decide | omega⟩, by first | decide | omega, by first | decide | omega, by first | decide | omega, ⟨by first | decide | omega, by first | decide | omega⟩, ⟨by first | decide | omega, by first | decide | omega⟩, ⟨by first | decide | omega, by first | decide | omega⟩, ⟨by first | decide | omega, by first | decide | omega⟩, ⟨by first | decide | omega, by first | decide | omega⟩, ⟨by first | decide | omega, by first | decide | omega⟩, ?_⟩⟩
    try (any_goals (exfalso; first | omega | exact absurd trivial (by assumption)))
    rw [e]
    refine K v hf hQ (fun a h1 h2 => ?_)
    rw [← e]
    exact hz a (by omega) h2
  | m + 1, i, v, hi, hf, hQ, hz => by
    have hw := hQ.2.1
    obtain ⟨w0, w1, w3, w5, -⟩ := zwo_f hw
    have z1 : zLN (33 + 1) = 24 := by decide
    have z3 : zLN (33 + 3) = 24 := by decide
    obtain ⟨b1, b2, b3, b4⟩ := lay_b (W := W) hx.1 hs i
    have p6 := pow6 (m := i) (by omega)
    have e1 : max 1 (wS W) = wS W := by omega
    have e : sLay W x (i + 1) = ((sLay W x i).1 / wS W, upf (sLay W x i).2.1 (wN W - 1 - i) ((sLay W x i).1 % wS W), (sLay W x i).2.2.1 + (sLay W x i).2.2.2 * ((sLay W x i).1 % wS W + 1), (sLay W x i).2.2.2 * 10) := rfl
    have r0 := Int.emod_nonneg (sLay W x i).1 (b := wS W) (by omega)
    have r1 := Int.emod_lt_of_pos (sLay W x i).1 (b := wS W) (by omega)
    have d0 := Int.ediv_nonneg b1.1 (b := wS W) (by omega)
    have d1 := Int.ediv_le_self (wS W) b1.1
    have m1 : (sLay W x i).2.2.2 * ((sLay W x i).1 % wS W + 1) ≤ (sLay W x i).2.2.2 * 3 := Int.mul_le_mul_of_nonneg_left (by omega) (by omega)
    have m0 : 0 ≤ (sLay W x i).2.2.2 * ((sLay W x i).1 % wS W + 1) := Int.mul_nonneg (by omega) (by omega)
    have td : (sLay W x i).1.tdiv (wS W) = (sLay W x i).1 / wS W := ztd b1.1
    have tm : (sLay W x i).1.tmod (wS W) = (sLay W x i).1 % wS W := ztm b1.1
    refine zgo ck_W_layAnew 300 12 _ _ _ _ rfl (sg_W_layAnew_12 ?_)
    try simp (disch := omega) only [zup_e, zup_ak, zup_j, Int.zero_add, hQ.1, hQ.2.2.2.1.2.2.2.1, e1, td, tm]
    refine ⟨fun q1 => ?_, fun q2 => ⟨by first | decide | omega, by first | decide | omega, by first | decide | omega, by first | decide | omega, by first | decide | omega, ⟨by first | decide | omega, by first | decide | omega⟩, by first | decide | omega, ⟨by first | decide | omega, by first | decide | omega⟩, by first | decide | omega, by first | decide | omega, by first | decide | omega, ⟨by first | decide | omega, by first | decide | omega⟩, by first | decide | omega, by first | decide | omega, by first | decide | omega, ⟨by first | decide | omega, by first | decide | omega⟩, ⟨by first | decide | omega, by first | decide | omega⟩, ⟨by first | decide | omega, by first | decide | omega⟩, ⟨by first | decide | omega, by first | decide | omega⟩, ⟨by first | decide | omega, by first | decide | omega⟩, ⟨by first | decide | omega, by first | decide | omega⟩, ?_⟩⟩
    try (any_goals (exfalso; first | omega | exact absurd trivial (by assumption)))
    have hF : Fq v (zupd (zupd v (33 + 3) (wN W - 1 - i) ((sLay W x i).1 % wS W)) (33 + 1) (wN W - 1 - i) 0) := fun b _ r1 _ _ => by rw [zup_a (by omega), zup_a (by omega)]
    have ei : wN W - 1 - (i : Int) + -1 = wN W - 1 - ((i + 1 : Nat) : Int) := by omega
    rw [ei]
    refine la_12 hx hs hN K m (i + 1) (by omega) (fun b q1 q3 => by rw [zup_a q1, zup_a q3]; exact hf b q1 q3) (QC_fr hF (SK_fk hQ.2.2.2.2.2.2.1 (fun b q1 q2 => by rw [zup_a (by omega), zup_a (by omega)]) hQ.2.2.2.2.2.2.2) hQ) (fun a h1 h2 => ?_)
    rw [e]
    show _ ∧ _ = upf (sLay W x i).2.1 (wN W - 1 - i) ((sLay W x i).1 % wS W) a
    by_cases q : a = wN W - 1 - i
    · rw [q, upf_s, zup_s, zup_ak (by omega), zup_s]
      exact ⟨rfl, rfl⟩
    · rw [upf_n q, zup_j q, zup_ak (by omega), zup_ak (by omega), zup_j q]
      exact hz a (by omega) h2
theorem c_W_layAnew {x : Int} (hx : 0 ≤ x ∧ x ≤ 1000) (hs : 1 ≤ wS W ∧ wS W ≤ 3) (hN : wN W ≤ 6) (hQ : QC v w W c S) (hO : CO v 33 W c)
    (K : ∀ v' : zH, Fq v v' → QC v' w W c S → CO v' 33 W (cLaid W c x) → Q (sLay W x (wN W).toNat).2.2.1 v') : zC l G 1 (d + 1) h_W_layAnew [(2, 0), (0, x)] v 115 Q := by
  have hw := hQ.2.1
  obtain ⟨w0, w1, w3, w5, -⟩ := zwo_f hw
  have h0 := hQ.2.2.1.2.2.2.1
  refine zC_at ok_W_layAnew ck_W_layAnew rfl rfl (sg_W_layAnew_0 ?_)
  try simp (disch := omega) only [zup_e, zup_ak, zup_j, Int.zero_add, hQ.1, hQ.2.2.2.1.2.2.1]
  refine ⟨by first | decide | omega, by first | decide | omega, by first | decide | omega, ⟨by first | decide | omega, by first | decide | omega⟩, ?_⟩
  have e0 : wN W - 1 = wN W - 1 - ((0 : Nat) : Int) := by omega
  rw [e0]
  refine la_12 hx hs hN (fun v1 g1 g2 g3 => K v1 (fun b _ q _ _ => g1 b (by omega) (by omega)) g2 ⟨?_, fun a h1 h2 => g3 a h1 h2, fun k h1 h2 => ?_⟩) (wN W).toNat 0 (by omega) (fun _ _ _ => rfl) hQ (fun a h1 h2 => absurd h1 (by omega))
  · rw [g1 _ (by omega) (by omega)]
    exact hO.1
  · rw [g1 _ (by omega) (by omega), g1 _ (by omega) (by omega)]
    exact hO.2.2 k h1 h2
theorem lo_8 {f : Int → Int} {QX : Nat → zH → Prop} (hQ : QC v w W c S) (hf : ∀ a : Int, 0 ≤ a → a < wN W → v (33 + 6) a = f a) (K : Q (sMinF f (wN W).toNat) v) :
    ∀ (m i : Nat), (i : Int) + m = wN W → zJ l G 1 (d + 1) h_W_leastOfAll k_W_leastOfAll 115 Q QX 8 [(2, 0), (0, sMinF f i), (0, (i : Int))] [] v 115
  | 0, i, hi => by
    have hw := hQ.2.1
    have w0 := (zwo_f hw).1
    have e : i = (wN W).toNat := by omega
    refine zgo ck_W_leastOfAll 300 8 _ _ _ _ rfl (sg_W_leastOfAll_8 ?_)
    try simp (disch := omega) only [zup_e, zup_ak, zup_j, Int.zero_add, hQ.1, hQ.2.2.2.1.2.2.1]
    refine ⟨by first | decide | omega, by first | decide | omega, by first | decide | omega, ⟨fun q1 => ?_, fun q2 => ⟨by first | decide | omega, by first | decide | omega, by first | decide | omega, ⟨by first | decide | omega, by first | decide | omega⟩, ⟨by first | decide | omega, by first | decide | omega⟩, ?_⟩⟩⟩
    try (any_goals (exfalso; first | omega | exact absurd trivial (by assumption)))
    rw [e]
    exact K
  | m + 1, i, hi => by
    have hw := hQ.2.1
    have w0 := (zwo_f hw).1
    have hN := hQ.2.2.1.2.2.2.1
    have z1 : zLN (33 + 6) = 24 := by decide
    have hfi := hf i (by omega) (by omega)
    refine zgo ck_W_leastOfAll 300 8 _ _ _ _ rfl (sg_W_leastOfAll_8 ?_)
    try simp (disch := omega) only [zup_e, zup_ak, zup_j, Int.zero_add, hQ.1, hQ.2.2.2.1.2.2.1, hfi]
    refine ⟨by first | decide | omega, by first | decide | omega, by first | decide | omega, ⟨fun q1 => ?_, fun q2 => ⟨by first | decide | omega, by first | decide | omega, by first | decide | omega, ⟨by first | decide | omega, by first | decide | omega⟩, ⟨by first | decide | omega, by first | decide | omega⟩, ?_⟩⟩⟩
    try (any_goals (exfalso; first | omega | exact absurd trivial (by assumption)))
    exact lo_8 hQ hf K m (i + 1) (by omega)
theorem c_W_leastOfAll {f : Int → Int} (hQ : QC v w W c S) (hN1 : 1 ≤ wN W) (hf : ∀ a : Int, 0 ≤ a → a < wN W → v (33 + 6) a = f a) (K : Q (sMinF f (wN W).toNat) v) : zC l G 1 (d + 1) h_W_leastOfAll [(2, 0)] v 115 Q := by
  have z1 : zLN (33 + 6) = 24 := by decide
  refine zC_at ok_W_leastOfAll ck_W_leastOfAll rfl rfl (sg_W_leastOfAll_0 ?_)
  try simp (disch := omega) only [zup_e, zup_ak, zup_j, Int.zero_add]
  refine ⟨by first | decide | omega, by first | decide | omega, by first | decide | omega, ⟨by first | decide | omega, by first | decide | omega⟩, ?_⟩
  rw [hf 0 (by omega) (by omega)]
  have := lo_8 (d := d) (l := l) (G := G) (QX := fun _ _ => False) hQ hf K ((wN W).toNat - 1) 1 (by omega)
  rw [min_1] at this
  exact this
theorem min_b {f : Int → Int} {N : Int} (hf : ∀ a : Int, 0 ≤ a → a < N → 0 ≤ f a) (hN : 1 ≤ N) : ∀ n : Nat, (n : Int) ≤ N → 0 ≤ sMinF f n
  | 0, _ => hf 0 (by omega) (by omega)
  | n + 1, h => by
    have h1 := min_b hf hN n (by omega)
    have h2 := hf n (by omega) (by omega)
    show 0 ≤ min (sMinF f n) (f n)
    omega
theorem ld_46 {k : Int} {n : Nat} {v0 : zH} {QX : Nat → zH → Prop} (hn : n ≤ 729) (hs : 1 ≤ wS W ∧ wS W ≤ 3) (hN : 1 ≤ wN W ∧ wN W ≤ 6)
    (K : ∀ v' : zH, Fq v0 v' → QC v' w W c S → Q (if k = 0 then (sLad W S c n).1 else (sLad W S c n).2) v') (h0 : 1 ≤ n) :
    ∀ (m i : Nat) {v : zH} {b : Int}, i + m = n → (i ≠ 0 → b = (sLad W S c i).1) → Fq v0 v → QC v w W c S → zJ l G 1 (d + 6) h_W_laid k_W_laid 115 Q QX 46 [(2, 0), (0, k), (0, (n : Int)), (0, b), (0, (sLad W S c i).2), (0, (i : Int)), (3, 0), (3, 0)] [] v 115
  | 0, i, v, b, hi, hb, hF, hQ => by
    have e : i = n := by omega
    subst e
    have K := K v hF hQ
    have hb := hb (by omega)
    refine zgo ck_W_laid 300 46 _ _ _ _ rfl (sg_W_laid_46 ?_)
    refine ⟨fun q1 => ⟨fun q2 => ?_, fun q3 => ?_⟩, fun q4 => ⟨by first | decide | omega, by first | decide | omega, by first | decide | omega, ?_⟩⟩
    try (any_goals (exfalso; first | omega | exact absurd trivial (by assumption)))
    · rw [if_neg q2] at K
      exact K
    · rw [if_pos q3, ← hb] at K
      exact K
  | m + 1, i, v, b, hi, hb, hF, hQ => by
    have hw := hQ.2.1
    have hh := hQ.2.2.2.2.1
    refine zgo ck_W_laid 300 46 _ _ _ _ rfl (sg_W_laid_46 ?_)
    try simp (disch := omega) only [zup_e, zup_ak, zup_j, Int.zero_add]
    refine ⟨fun q1 => ⟨fun q2 => ?_, fun q3 => ?_⟩, fun q4 => ⟨by first | decide | omega, by first | decide | omega, by first | decide | omega, ?_⟩⟩
    try (any_goals (exfalso; first | omega | exact absurd trivial (by assumption)))
    refine c_fol hQ (fun v1 g1 g2 g3 => ?_)
    try simp (disch := omega) only [zup_e, zup_ak, zup_j, Int.zero_add]
    refine ⟨by first | decide | omega, ?_⟩
    try (any_goals (exfalso; first | omega | exact absurd trivial (by assumption)))
    refine c_W_layAnew (by omega) hs hN.2 g2 g3 (fun v2 f1 f2 f3 => ?_)
    try simp (disch := omega) only [zup_e, zup_ak, zup_j, Int.zero_add, f2.1]
    refine ⟨by first | decide | omega, by first | decide | omega, by first | decide | omega, by first | decide | omega, by first | decide | omega, ?_⟩
    try (any_goals (exfalso; first | omega | exact absurd trivial (by assumption)))
    refine c_slp f2 (Cok_laid hQ.2.2.1 hh.1 (by omega) hs) hh.2 f3 (fun v3 e1 e2 e3 => ?_)
    refine ⟨by first | decide | omega, ?_⟩
    try (any_goals (exfalso; first | omega | exact absurd trivial (by assumption)))
    have hp : 0 ≤ sLdF W S c i := min_b (fun a h1 h2 => (sNi_b snOk_S hQ.2.2.1 (Cok_laid hQ.2.2.1 hh.1 (by omega) hs) (by show cH c + 32 ≤ _; omega) h1 h2).1) hN.1 _ (by omega)
    refine c_W_leastOfAll e2 hN.1 e3 ?_
    have el : sMinF (sNi W (sSn S) (kR S) (cLaid W c i)) (wN W).toNat = sLdF W S c i := rfl
    rw [el]
    have hF3 : Fq v0 v3 := Fq_tr hF (Fq_tr (Fo_Fq g1) (Fq_tr f1 e1))
    have es : sLad W S c (i + 1) = if (sLad W S c i).2 < sLdF W S c i then ((sLay W i (wN W).toNat).2.2.1, sLdF W S c i) else sLad W S c i := rfl
    have next : ∀ b : Int, b = (sLad W S c (i + 1)).1 → zJ l G 1 (d + 6) h_W_laid k_W_laid 115 Q QX 46 [(2, 0), (0, k), (0, (n : Int)), (0, b), (0, (sLad W S c (i + 1)).2), (0, ((i + 1 : Nat) : Int)), (3, 0), (3, 0)] [] v3 115 := fun b hb => ld_46 hn hs hN K h0 m (i + 1) (by omega) (fun _ => hb) hF3 e2
    have ei : ((i + 1 : Nat) : Int) = (i : Int) + 1 := by omega
    rw [ei, es] at next
    refine ⟨fun q1 => ⟨⟨by first | decide | omega, by first | decide | omega⟩, ?_⟩, fun q2 => ⟨⟨by first | decide | omega, by first | decide | omega⟩, ?_⟩⟩
    try (any_goals (exfalso; first | omega | exact absurd trivial (by assumption)))
    · rw [if_neg (by omega)] at next
      refine next b ?_
      by_cases q : i = 0
      · subst q
        have : (sLad W S c 0).2 = -1 := rfl
        omega
      · exact hb q
    · rw [if_pos q2] at next
      exact next _ rfl
theorem ld_26 {k : Int} {QX : Nat → zH → Prop} (hQ : QC v w W c S) (hs : 1 ≤ wS W ∧ wS W ≤ 3) (hN : 1 ≤ wN W ∧ wN W ≤ 6) (K : ∀ v' : zH, Fq v v' → QC v' w W c S → Q (if k = 0 then (sLad W S c ((wS W).toNat ^ (wN W).toNat)).1 else (sLad W S c ((wS W).toNat ^ (wN W).toNat)).2) v') :
    ∀ (m i : Nat), (i : Int) + m = wN W → zJ l G 1 (d + 6) h_W_laid k_W_laid 115 Q QX 26 [(2, 0), (0, k), (0, (((wS W).toNat ^ i : Nat) : Int)), (0, (i : Int)), (3, 0), (3, 0), (3, 0), (3, 0)] [] v 115
  | 0, i, hi => by
    have hw := hQ.2.1
    obtain ⟨w0, w1, w3, w5, -⟩ := zwo_f hw
    have e : i = (wN W).toNat := by omega
    have p1 : 1 ≤ (wS W).toNat ^ i := Nat.one_le_pow _ _ (by omega)
    have p2 : (wS W).toNat ^ i ≤ 729 := Nat.le_trans (Nat.pow_le_pow_left (by omega : (wS W).toNat ≤ 3) i) (Nat.le_trans (Nat.pow_le_pow_right (by omega) (by omega : i ≤ 6)) (by decide))
    rw [← e] at K
    refine zgo ck_W_laid 300 26 _ _ _ _ rfl (sg_W_laid_26 ?_)
    try simp (disch := omega) only [zup_e, zup_ak, zup_j, Int.zero_add, hQ.1, hQ.2.2.2.1.2.2.1]
    refine ⟨by first | decide | omega, by first | decide | omega, by first | decide | omega, ⟨fun q1 => ?_, fun q2 => ⟨by first | decide | omega, by first | decide | omega, by first | decide | omega, by first | decide | omega, ⟨by first | decide | omega, by first | decide | omega⟩, ⟨by first | decide | omega, by first | decide | omega⟩, ?_⟩⟩⟩
    try (any_goals (exfalso; first | omega | exact absurd trivial (by assumption)))
    exact ld_46 p2 hs hN K p1 ((wS W).toNat ^ i) 0 (by omega) (fun q => absurd rfl q) Fq_rf hQ
  | m + 1, i, hi => by
    have hw := hQ.2.1
    obtain ⟨w0, w1, w3, w5, -⟩ := zwo_f hw
    have p1 : 1 ≤ (wS W).toNat ^ (i + 1) := Nat.one_le_pow _ _ (by omega)
    have p2 : (wS W).toNat ^ (i + 1) ≤ 729 := Nat.le_trans (Nat.pow_le_pow_left (by omega : (wS W).toNat ≤ 3) _) (Nat.le_trans (Nat.pow_le_pow_right (by omega) (by omega : i + 1 ≤ 6)) (by decide))
    have next : zJ l G 1 (d + 6) h_W_laid k_W_laid 115 Q QX 26 [(2, 0), (0, k), (0, (((wS W).toNat ^ (i + 1) : Nat) : Int)), (0, ((i + 1 : Nat) : Int)), (3, 0), (3, 0), (3, 0), (3, 0)] [] v 115 := ld_26 hQ hs hN K m (i + 1) (by omega)
    have ei : ((i + 1 : Nat) : Int) = (i : Int) + 1 := by omega
    have ep : (((wS W).toNat ^ (i + 1) : Nat) : Int) = (((wS W).toNat ^ i : Nat) : Int) * wS W := by
      rw [Nat.pow_succ, Int.natCast_mul]
      have : (((wS W).toNat : Nat) : Int) = wS W := by omega
      rw [this]
    have pb : (((wS W).toNat ^ i : Nat) : Int) * wS W ≤ 729 := by rw [← ep]; omega
    have pb0 : 0 ≤ (((wS W).toNat ^ i : Nat) : Int) * wS W := by rw [← ep]; omega
    rw [ei, ep] at next
    refine zgo ck_W_laid 300 26 _ _ _ _ rfl (sg_W_laid_26 ?_)
    try simp (disch := omega) only [zup_e, zup_ak, zup_j, Int.zero_add, hQ.1, hQ.2.2.2.1.2.2.1, hQ.2.2.2.1.2.2.2.1]
    refine ⟨by first | decide | omega, by first | decide | omega, by first | decide | omega, ⟨fun q1 => ?_, fun q2 => ⟨by first | decide | omega, by first | decide | omega, by first | decide | omega, by first | decide | omega, ⟨by first | decide | omega, by first | decide | omega⟩, ⟨by first | decide | omega, by first | decide | omega⟩, ?_⟩⟩⟩
    try (any_goals (exfalso; first | omega | exact absurd trivial (by assumption)))
    exact next
theorem c_W_laid {k : Int} (hQ : QC v w W c S) (K : ∀ v' : zH, Fq v v' → QC v' w W c S → Q (aLaid W S c k) v') : zC l G 1 (d + 7) h_W_laid [(2, 0), (0, k)] v 115 Q := by
  unfold aLaid at K
  have hw := hQ.2.1
  obtain ⟨w0, w1, w3, w5, -⟩ := zwo_f hw
  have hn0 := W_n0 hQ.2.2.1
  have hr := hQ.2.2.1.2.2.2.2.1
  refine zC_at ok_W_laid ck_W_laid rfl rfl (sg_W_laid_0 ?_)
  try simp (disch := omega) only [zup_e, zup_ak, zup_j, Int.zero_add, hQ.1, hQ.2.2.2.1.2.2.1, hQ.2.2.2.1.2.2.2.1]
  refine ⟨by first | decide | omega, by first | decide | omega, by first | decide | omega, ⟨fun q1 => ?_, fun q2 => ⟨by first | decide | omega, by first | decide | omega, by first | decide | omega, ⟨fun q3 => ?_, fun q4 => ⟨by first | decide | omega, by first | decide | omega, by first | decide | omega, by first | decide | omega, ⟨fun q5 => ?_, fun q6 => ?_⟩⟩⟩⟩⟩⟩
  try (any_goals (exfalso; first | omega | exact absurd trivial (by assumption)))
  · rw [if_neg (fun q => by omega)] at K
    exact K _ Fq_rf hQ
  · rw [if_neg (fun q => by omega)] at K
    exact K _ Fq_rf hQ
  · rw [if_neg (fun q => by omega)] at K
    exact K _ Fq_rf hQ
  refine c_W_within ?_
  by_cases h3 : 0 ≤ k ∧ k ≤ 1
  rotate_left
  · rw [if_neg h3]
    refine ⟨fun q1 => ?_, fun q2 => ?_⟩
    try (any_goals (exfalso; first | omega | exact absurd trivial (by assumption)))
    rw [if_neg (fun q => h3 q.2.2)] at K
    exact K _ Fq_rf hQ
  rw [if_pos h3]
  refine ⟨fun q1 => ?_, fun q2 => ?_⟩
  try (any_goals (exfalso; first | omega | exact absurd trivial (by assumption)))
  rw [if_pos ⟨by omega, by omega, h3⟩] at K
  exact ld_26 hQ (by omega) (by omega) K (wN W).toNat 0 (by omega)
-- what is told of the wall
theorem c_W_cell {a k : Int} {QX : Nat → zH → Prop} (hQ : QC v w W c S) (h1 : isc (wR W) (wC W) a = true) (h2 : 0 ≤ k ∧ k ≤ 3) (K : ∀ v' : zH, Fq v v' → QC v' w W c S → Q (aCellV W S c a k) v') : zx l G 1 (d + 8) h_W_cell k_W_cell 115 Q QX (zJ l G 1 (d + 8) h_W_cell k_W_cell 115 Q QX) 300 (k_W_cell.drop 0) [(2, 0), (0, a), (0, k), (3, 0)] [] v 115 := by
  unfold aCellV at K
  have hw := hQ.2.1
  obtain ⟨w0, w1, w3, w5, -, -, ⟨w9, w9'⟩, ⟨w10, w10'⟩, -⟩ := zwo_f hw
  have hN := hQ.2.2.1.2.2.2.1
  have hN2 := hQ.2.2.1.2.2.1
  have hb := ix_b hQ.2.2.1 h1
  have z3 : zLN (24 + 3) = 24 := by decide
  have z1 : zLN (24 + 1) = 24 := by decide
  have z2 : zLN (33 + 2) = 24 := by decide
  have eo := hQ.2.2.2.2.2.1
  have e1 := eo.2.1 _ hb.1 hb.2.1
  obtain ⟨er, ec, -, -⟩ := hQ.2.2.2.1.2.2.2.2.2.2.2.2.2 _ hb.1 hb.2.1
  refine sg_W_cell_0 ?_
  try simp (disch := omega) only [zup_e, zup_ak, zup_j, Int.zero_add, hQ.1]
  refine ⟨by first | decide | omega, by first | decide | omega, by first | decide | omega, ?_⟩
  try (any_goals (exfalso; first | omega | exact absurd trivial (by assumption)))
  refine c_ix hQ ?_
  rw [if_pos h1]
  show _
  simp only [Int.zero_add, hQ.1, e1.1, e1.2, er, ec, eo.1]
  refine ⟨fun q1 => ⟨fun q2 => ⟨(by first | rfl | trivial), (by first | rfl | trivial), ?_⟩, fun q3 => ⟨by first | decide | omega, by first | decide | omega, by first | decide | omega, ⟨by first | decide | omega, by first | decide | omega⟩, ?_⟩, fun q4 => ⟨by first | decide | omega, by first | decide | omega, by first | decide | omega, ⟨by first | decide | omega, by first | decide | omega⟩, ?_⟩, fun q5 => ⟨by first | decide | omega, by first | decide | omega, by first | decide | omega, by first | decide | omega, by first | decide | omega, by first | decide | omega, by first | decide | omega, ⟨by first | decide | omega, by first | decide | omega⟩, by first | decide | omega, by first | decide | omega, by first | decide | omega, by first | decide | omega, ⟨by first | decide | omega, by first | decide | omega⟩, by first | decide | omega, by first | decide | omega, by first | decide | omega, ⟨by first | decide | omega, by first | decide | omega⟩, by first | decide | omega, ?_⟩, fun q6 => ⟨by first | decide | omega, ?_⟩, fun q7 => ⟨(by first | rfl | trivial), (by first | rfl | trivial), ?_⟩⟩, fun q8 => ⟨(by first | rfl | trivial), (by first | rfl | trivial), ?_⟩⟩
  try (any_goals (exfalso; first | omega | exact absurd trivial (by assumption)))
  · rw [if_pos q3] at K
    exact K v Fq_rf hQ
  · rw [if_neg (by omega), if_pos q4] at K
    exact K v Fq_rf hQ
  · rw [if_neg (by omega), if_neg (by omega), if_pos q5] at K
    have hg := gA (R := wR W) hQ.2.2.1.2.1 (a := ixn (wC W) a) ⟨hb.1, by omega⟩
    have hc := hQ.2.2.2.2.1
    have hs := (hc.1.2.1 _ hb.1 hb.2.1).1
    have hR := hQ.2.2.1.1
    have hC6 := hQ.2.2.1.2.1
    have h4 := hQ.2.2.1.2.2.2.2.2.2.1
    have h0 := hc.1.1
    exact c_Sk_sunOn hQ.2.2.2.2.2.2.1 hQ.2.2.2.2.2.2.2 (by omega) (by omega) (by omega) (by omega) (fun v1 g1 g2 => K v1 (fun b q _ _ _ => g1 b q) (QC_fr (fun b q _ _ _ => g1 b q) g2 hQ))
  · rw [if_neg (by omega), if_neg (by omega), if_neg (by omega)] at K
    refine c_W_goAhead (n := 1) (by omega) hQ (fun v1 g1 g2 g3 g4 => ?_)
    try simp (disch := omega) only [zup_e, zup_ak, zup_j, Int.zero_add]
    refine ⟨by first | decide | omega, by first | decide | omega, by first | decide | omega, ⟨by first | decide | omega, by first | decide | omega⟩, ?_⟩
    rw [g4 (by omega) _ hb.1 hb.2.1]
    exact K v1 g1 g2
theorem c_W_cellX {a k : Int} {QX : Nat → zH → Prop} (hQ : QC v w W c S) (h : ¬ (isc (wR W) (wC W) a = true ∧ (0 ≤ k ∧ k ≤ 3))) (K : QX 133 v ∧ QX 14 v) : zx l G 1 (d + 8) h_W_cell k_W_cell 115 Q QX (zJ l G 1 (d + 8) h_W_cell k_W_cell 115 Q QX) 300 (k_W_cell.drop 0) [(2, 0), (0, a), (0, k), (3, 0)] [] v 115 := by
  have hw := hQ.2.1
  obtain ⟨w0, w1, w3, w5, -⟩ := zwo_f hw
  refine sg_W_cell_0 ?_
  try simp (disch := omega) only [zup_e, zup_ak, zup_j, Int.zero_add, hQ.1]
  refine ⟨by first | decide | omega, by first | decide | omega, by first | decide | omega, ?_⟩
  try (any_goals (exfalso; first | omega | exact absurd trivial (by assumption)))
  refine c_ix hQ ?_
  by_cases h1 : isc (wR W) (wC W) a = true
  · have hb := ix_b hQ.2.2.1 h1
    have h2 : ¬ (0 ≤ k ∧ k ≤ 3) := fun q => h ⟨h1, q⟩
    rw [if_pos h1]
    refine ⟨fun q => ⟨fun q => ⟨by first | rfl | trivial, by first | rfl | trivial, K.1⟩, fun q => absurd q (by omega), fun q => absurd q (by omega), fun q => absurd q (by omega), fun q => absurd q (by omega), fun q => ⟨by first | rfl | trivial, by first | rfl | trivial, K.1⟩⟩, fun q => absurd q (by omega)⟩
  · rw [if_neg h1]
    exact ⟨fun q => absurd rfl q, fun q => ⟨by first | rfl | trivial, by first | rfl | trivial, K.2⟩⟩
end
