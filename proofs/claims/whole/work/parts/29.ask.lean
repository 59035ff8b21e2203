/-! THE CLASS: questions: the wall apart -/
def QC (v : zH) (w : Int) (W : zWl) (c : zCo) (S : zSk) : Prop := v 0 10 = w ∧ zwo w ∧ Wok W ∧ WL v w W ∧ (Cok W c ∧ cH c ≤ 900000) ∧ CO v 24 W c ∧ Sok S ∧ SK v S
/-- what a question may change -/
def Fq (v v' : zH) : Prop := ∀ b : Int, fK b → (b < 33 ∨ 41 < b) → b ≠ 49 → b ≠ 50 → v' b = v b
theorem Fq_rf {v : zH} : Fq v v := fun _ _ _ _ _ => rfl
theorem Fq_tr {u v w : zH} (h : Fq u v) (g : Fq v w) : Fq u w := fun b q0 q1 q2 q3 => (g b q0 q1 q2 q3).trans (h b q0 q1 q2 q3)
theorem Fr_Fq {v v' : zH} (h : Fr 33 v v') : Fq v v' := fun b q0 q1 _ _ => h b q0 (by omega) (by omega) (by omega) (by omega)
theorem QC_fr {v v' : zH} {w : Int} {W : zWl} {c : zCo} {S : zSk} (h : Fq v v') (hS : SK v' S) (k : QC v w W c S) : QC v' w W c S := by
  obtain ⟨k1, k2, k3, k4, k5, k6, k7, k8⟩ := k
  refine ⟨?_, k2, k3, WL_fr (fun a h1 h2 => h a (by unfold fK; omega) (by omega) (by omega) (by omega)) k4, k5, CO_fr (fun a q => h a (by unfold fK; omega) (by omega) (by omega) (by omega)) k6, k7, hS⟩
  rw [h 0 (by unfold fK; omega) (by omega) (by omega) (by omega)]
  exact k1
section
variable {l : Launch} {G : zG} {d : Nat} {v : zH} {Q : Int → zH → Prop} {w : Int} {W : zWl} {c : zCo} {S : zSk}
theorem c_W_within {x lo hi : Int} (K : Q (if lo ≤ x ∧ x ≤ hi then 1 else 0) v) : zC l G 1 (d + 1) h_W_within [(0, x), (0, lo), (0, hi)] v 115 Q := by
  refine zC_at ok_W_within ck_W_within rfl rfl (sg_W_within_0 ?_)
  refine ⟨fun q1 => ⟨by first | decide | omega, ?_⟩, fun q2 => ⟨fun q3 => ⟨by first | decide | omega, ?_⟩, fun q4 => ⟨by first | decide | omega, ?_⟩⟩⟩
  · rw [if_neg (by omega)] at K; exact K
  · rw [if_neg (by omega)] at K; exact K
  · rw [if_pos (by omega)] at K; exact K
theorem within_y {x lo hi : Int} {P : Int → Prop} (h : lo ≤ x ∧ x ≤ hi) (K : P 1) : P (if lo ≤ x ∧ x ≤ hi then 1 else 0) := by rw [if_pos h]; exact K
theorem within_n {x lo hi : Int} {P : Int → Prop} (h : ¬ (lo ≤ x ∧ x ≤ hi)) (K : P 0) : P (if lo ≤ x ∧ x ≤ hi then 1 else 0) := by rw [if_neg h]; exact K
theorem c_ix {a : Int} (hQ : QC v w W c S) (K : Q (if isc (wR W) (wC W) a then ixn (wC W) a else -1) v) : zC l G 1 (d + 1) h_Wa_indexOf [(2, w), (0, a)] v 115 Q := by
  obtain ⟨k1, k2, k3, k4, k5, k6, k7, k8⟩ := hQ
  exact c_Wa_indexOf (zwo_f k2).1 k4.1 k4.2.1 k3.1 k3.2.1 K
theorem ix_b (hW : Wok W) {a : Int} (h : isc (wR W) (wC W) a = true) : 0 ≤ ixn (wC W) a ∧ ixn (wC W) a < wN W ∧ ixn (wC W) a < 24 := by
  have := gE hW.1.2 hW.2.1 h
  have h3 := hW.2.2.1
  have h4 := hW.2.2.2.1
  omega
theorem c_fol (hQ : QC v w W c S) (K : ∀ v' : zH, (∀ b : Int, b < 33 ∨ 38 < b → v' b = v b) → QC v' w W c S → CO v' 33 W c → Q 0 v') : zC l G 1 (d + 1) h_Co_follow [(2, 33), (2, 24)] v 115 Q := by
  have hQ' := hQ
  obtain ⟨k1, k2, k3, k4, k5, k6, k7, k8⟩ := hQ
  refine c_Co_follow (Or.inr rfl) (Or.inl rfl) (by omega) k3 k6 (fun v' g1 g2 => K v' (fun b q => g1 b (by omega) (by omega) (by omega) (by omega) (by omega)) (QC_fr (fun b q0 q1 q2 q3 => g1 b (by omega) (by omega) (by omega) (by omega) (by omega)) (SK_fk k7 (fun b q1 q2 => g1 b (by omega) (by omega) (by omega) (by omega) (by omega)) k8) hQ') g2)
theorem c_st {c1 : zCo} (hQ : QC v w W c S) (hc : Cok W c1) (hO : CO v 33 W c1) (K : ∀ v' : zH, Fr 33 v v' → QC v' w W c S → CO v' 33 W (sStep W (sSn S) (kR S) c1) → (∀ a : Int, 0 ≤ a → a < wN W → v' (33 + 2) a = sFelt W (sSn S) (kR S) c1 a) → Q 0 v') : zC l G 1 (d + 4) h_Co_step [(2, 33), (2, w), (2, 5)] v 115 Q := by
  have hQ' := hQ
  obtain ⟨k1, k2, k3, k4, k5, k6, k7, k8⟩ := hQ
  exact c_Co_step (Or.inr rfl) k2 k3 k4 hc hO k7 k8 (fun v' g1 g2 g3 g4 => K v' g1 (QC_fr (Fr_Fq g1) g2 hQ') g3 g4)
theorem Cok_S {n : Nat} (hQ : QC v w W c S) (hn : n ≤ 99999) : Cok W (sSt W (sSn S) (kR S) c n) := by
  have h := hQ.2.2.2.2.1
  exact Cok_st snOk_S hQ.2.2.1 h.1 n (by omega)
theorem go_loop {n : Nat} {v0 : zH} {QX : Nat → zH → Prop} (hn : n ≤ 200) (hQ0 : QC v0 w W c S)
    (K : ∀ v' : zH, Fq v0 v' → QC v' w W c S → CO v' 33 W (sSt W (sSn S) (kR S) c n) → (1 ≤ n → ∀ a : Int, 0 ≤ a → a < wN W → v' (33 + 2) a = sFk W (sSn S) (kR S) c (n - 1) a) → Q 0 v') :
    ∀ (m i : Nat) {v : zH}, i + m = n → Fq v0 v → QC v w W c S → CO v 33 W (sSt W (sSn S) (kR S) c i) → (1 ≤ i → ∀ a : Int, 0 ≤ a → a < wN W → v (33 + 2) a = sFk W (sSn S) (kR S) c (i - 1) a) →
    zJ l G 1 (d + 6) h_W_goAhead k_W_goAhead 115 Q QX 7 [(2, 0), (0, (n : Int)), (0, (i : Int))] [] v 115
  | 0, i, v, hi, hF, hQ, hA, hf => by
    refine zgo ck_W_goAhead 300 7 _ _ _ _ rfl (sg_W_goAhead_7 ?_)
    refine ⟨fun q1 => ?_, fun q2 => ⟨by first | decide | omega, by first | decide | omega, by first | decide | omega, by first | decide | omega, by first | decide | omega, ?_⟩⟩
    try (any_goals (exfalso; omega))
    have e : i = n := by omega
    subst e
    exact K v hF hQ hA hf
  | m + 1, i, v, hi, hF, hQ, hA, hf => by
    have hw := hQ.2.1
    refine zgo ck_W_goAhead 300 7 _ _ _ _ rfl (sg_W_goAhead_7 ?_)
    simp (disch := omega) only [zup_e, zup_ak, zup_j, Int.zero_add, hQ.1]
    refine ⟨fun q1 => ?_, fun q2 => ⟨by first | decide | omega, by first | decide | omega, by first | decide | omega, by first | decide | omega, by first | decide | omega, ?_⟩⟩
    try (any_goals (exfalso; omega))
    refine c_st hQ (Cok_S hQ (by omega)) hA (fun v1 g1 g2 g3 g4 => ?_)
    refine ⟨⟨by first | decide | omega, by first | decide | omega⟩, ?_⟩
    exact go_loop hn hQ0 K m (i + 1) (by omega) (Fq_tr hF (Fr_Fq g1)) g2 g3 (fun _ => g4)
theorem c_W_goAhead {n : Nat} (hn : n ≤ 200) (hQ : QC v w W c S)
    (K : ∀ v' : zH, Fq v v' → QC v' w W c S → CO v' 33 W (sSt W (sSn S) (kR S) c n) → (1 ≤ n → ∀ a : Int, 0 ≤ a → a < wN W → v' (33 + 2) a = sFk W (sSn S) (kR S) c (n - 1) a) → Q 0 v') : zC l G 1 (d + 6) h_W_goAhead [(2, 0), (0, (n : Int))] v 115 Q := by
  refine zC_at ok_W_goAhead ck_W_goAhead rfl rfl (sg_W_goAhead_0 ?_)
  simp (disch := omega) only [zup_e, zup_ak, zup_j, Int.zero_add]
  refine ⟨by first | decide | omega, by first | decide | omega, by first | decide | omega, ?_⟩
  refine c_fol hQ (fun v1 g1 g2 g3 => ?_)
  exact go_loop hn hQ K n 0 (by omega) (fun b q0 q1 q2 q3 => g1 b (by omega)) g2 g3 (fun q => absurd q (by omega))
theorem c_W_nightAhead (hQ : QC v w W c S) (K : ∀ v' : zH, Fq v v' → QC v' w W c S → (∀ a : Int, 0 ≤ a → a < wN W → v' (33 + 6) a = sNi W (sSn S) (kR S) c a) → Q 0 v') : zC l G 1 (d + 6) h_W_nightAhead [(2, 0)] v 115 Q := by
  have hw := hQ.2.1
  refine zC_at ok_W_nightAhead ck_W_nightAhead rfl rfl (sg_W_nightAhead_0 ?_)
  simp (disch := omega) only [zup_e, zup_ak, zup_j, Int.zero_add]
  refine ⟨by first | decide | omega, by first | decide | omega, by first | decide | omega, ?_⟩
  refine c_fol hQ (fun v1 g1 g2 g3 => ?_)
  have g2' := g2
  obtain ⟨k1, k2, k3, k4, k5, k6, k7, k8⟩ := g2
  simp (disch := omega) only [zup_e, zup_ak, zup_j, Int.zero_add, k1]
  refine ⟨by first | decide | omega, by first | decide | omega, by first | decide | omega, by first | decide | omega, by first | decide | omega, ?_⟩
  refine c_Co_sleep (Or.inr rfl) k2 k3 k4 k5.1 (by omega) g3 k7 k8 (fun v2 q1 q2 q3 => ?_)
  have hF : Fq v1 v2 := fun b q0 r1 r2 r3 => q1 b q0 (by omega) (by omega) (by omega) (by omega) (by omega)
  exact K v2 (Fq_tr (fun b q0 r1 r2 r3 => g1 b (by omega)) hF) (QC_fr hF q2 g2') q3
theorem su_loop {b : Int} {f : Int → Int} {QX : Nat → zH → Prop} (hQ : QC v w W c S) (hb : zCL b = 20 ∧ zLN b = 24) (hf : ∀ a : Int, 0 ≤ a → a < wN W → v b a = f a ∧ 0 ≤ f a ∧ f a ≤ 1000000) (K : Q (zsm f (wN W).toNat) v) :
    ∀ (m i : Nat), (i : Int) + m = wN W → zJ l G 1 (d + 1) h_W_sumOf k_W_sumOf 115 Q QX 4 [(2, 0), (2, b), (0, zsm f i), (0, (i : Int))] [] v 115
  | 0, i, hi => by
    have hw := hQ.2.1
    have w0 := (zwo_f hw).1
    refine zgo ck_W_sumOf 300 4 _ _ _ _ rfl (sg_W_sumOf_4 ?_)
    simp (disch := omega) only [zup_e, zup_ak, zup_j, Int.zero_add, hQ.1, hQ.2.2.2.1.2.2.1]
    refine ⟨by first | decide | omega, by first | decide | omega, by first | decide | omega, ⟨fun q1 => ?_, fun q2 => ⟨by first | decide | omega, ⟨fun q3 => ?_, fun q4 => ⟨by first | decide | omega, ⟨by first | decide | omega, by first | decide | omega⟩, ⟨by first | decide | omega, by first | decide | omega⟩, ⟨by first | decide | omega, by first | decide | omega⟩, ?_⟩⟩⟩⟩⟩
    try (any_goals (exfalso; omega))
    have e : i = (wN W).toNat := by omega
    rw [e]
    exact K
  | m + 1, i, hi => by
    have hw := hQ.2.1
    have w0 := (zwo_f hw).1
    have hN := hQ.2.2.1.2.2.2.1
    obtain ⟨b1, b2⟩ := hb
    obtain ⟨f1, f2⟩ := hf i (by omega) (by omega)
    have fs := zsm_b (f := f) (k := 1000000) i (fun j h1 h2 => (hf j h1 (by omega)).2)
    refine zgo ck_W_sumOf 300 4 _ _ _ _ rfl (sg_W_sumOf_4 ?_)
    simp (disch := omega) only [zup_e, zup_ak, zup_j, Int.zero_add, hQ.1, hQ.2.2.2.1.2.2.1, f1]
    refine ⟨by first | decide | omega, by first | decide | omega, by first | decide | omega, ⟨fun q1 => ?_, fun q2 => ⟨by first | decide | omega, ⟨fun q3 => ?_, fun q4 => ⟨by first | decide | omega, ⟨by first | decide | omega, by first | decide | omega⟩, ⟨by first | decide | omega, by first | decide | omega⟩, ⟨by first | decide | omega, by first | decide | omega⟩, ?_⟩⟩⟩⟩⟩
    try (any_goals (exfalso; omega))
    exact su_loop hQ ⟨b1, b2⟩ hf K m (i + 1) (by omega)
theorem c_W_sumOf {b : Int} {f : Int → Int} (hQ : QC v w W c S) (hb : zCL b = 20 ∧ zLN b = 24) (hf : ∀ a : Int, 0 ≤ a → a < wN W → v b a = f a ∧ 0 ≤ f a ∧ f a ≤ 1000000) (K : Q (zsm f (wN W).toNat) v) : zC l G 1 (d + 1) h_W_sumOf [(2, 0), (2, b)] v 115 Q := by
  have hN := hQ.2.2.1.2.2.2.1
  refine zC_at ok_W_sumOf ck_W_sumOf rfl rfl (sg_W_sumOf_0 ?_)
  exact su_loop hQ hb hf K (wN W).toNat 0 (by omega)
/-- all that is felt at a cell in n hours -/
def sFa (W : zWl) (sn : zSn) (rn : Int) (c : zCo) (n : Nat) (a : Int) : Int := zsm (fun k => sFk W sn rn c k.toNat a) n
def sAir (W : zWl) (sn : zSn) (rn : Int) (c : zCo) (n : Nat) : Int := zsm (sFa W sn rn c n) (wN W).toNat
theorem sFa_b {sn : zSn} {rn : Int} {n : Nat} {a : Int} (hs : snOk sn) (hW : Wok W) (hc : Cok W c) (hn : cH c + n ≤ 1000000) (h0 : 0 ≤ a) (h1 : a < wN W) : 0 ≤ sFa W sn rn c n a ∧ sFa W sn rn c n a ≤ 4000 * n :=
  zsm_b (k := 4000) n (fun i q1 q2 => sFk_b hs hW hc (by omega) h0 h1)
theorem ai_2 {n : Int} {v0 : zH} {QX : Nat → zH → Prop} (hW : Wok W)
    (K : ∀ v' : zH, (∀ b : Int, b ≠ 33 + 7 → v' b = v0 b) → (∀ a : Int, 0 ≤ a → a < wN W → v' (33 + 7) a = 0) → zJ l G 1 (d + 1) h_W_airAhead k_W_airAhead 115 Q QX 17 [(2, 0), (0, n), (0, 0), (3, 0)] [] v' 115) :
    ∀ (m : Nat) {i : Int} {v : zH}, 0 ≤ i → i + m = wN W → QC v w W c S → (∀ b : Int, b ≠ 33 + 7 → v b = v0 b) → (∀ a : Int, 0 ≤ a → a < i → v (33 + 7) a = 0) →
    zJ l G 1 (d + 1) h_W_airAhead k_W_airAhead 115 Q QX 2 [(2, 0), (0, n), (0, i), (3, 0)] [] v 115
  | 0, i, v, h0, hi, hQ, hf, hz => by
    have hw := hQ.2.1
    have w0 := (zwo_f hw).1
    refine zgo ck_W_airAhead 300 2 _ _ _ _ rfl (sg_W_airAhead_2 ?_)
    simp (disch := omega) only [zup_e, zup_ak, zup_j, Int.zero_add, hQ.1, hQ.2.2.2.1.2.2.1]
    refine ⟨by first | decide | omega, by first | decide | omega, by first | decide | omega, ⟨fun q1 => ?_, fun q2 => ⟨by first | decide | omega, by first | decide | omega, by first | decide | omega, ⟨by first | decide | omega, by first | decide | omega⟩, ⟨by first | decide | omega, by first | decide | omega⟩, ?_⟩⟩⟩
    try (any_goals (exfalso; omega))
    exact K v hf (fun a q1 q2 => hz a q1 (by omega))
  | m + 1, i, v, h0, hi, hQ, hf, hz => by
    have hw := hQ.2.1
    have w0 := (zwo_f hw).1
    have hN := hW.2.2.2.1
    have z7 : zLN (33 + 7) = 24 := by decide
    refine zgo ck_W_airAhead 300 2 _ _ _ _ rfl (sg_W_airAhead_2 ?_)
    simp (disch := omega) only [zup_e, zup_ak, zup_j, Int.zero_add, hQ.1, hQ.2.2.2.1.2.2.1]
    refine ⟨by first | decide | omega, by first | decide | omega, by first | decide | omega, ⟨fun q1 => ?_, fun q2 => ⟨by first | decide | omega, by first | decide | omega, by first | decide | omega, ⟨by first | decide | omega, by first | decide | omega⟩, ⟨by first | decide | omega, by first | decide | omega⟩, ?_⟩⟩⟩
    try (any_goals (exfalso; omega))
    refine ai_2 hW K m (by omega) (by omega) (QC_fr (fun b q0 q1 q2 q3 => zup_a (by omega)) (SK_fk hQ.2.2.2.2.2.2.1 (fun b q1 q2 => zup_a (by omega)) hQ.2.2.2.2.2.2.2) hQ) (fun b q => (zup_a q).trans (hf b q)) (fun a q1 q2 => ?_)
    by_cases e : a = i
    · rw [zup_e rfl e]
    · rw [zup_j e]
      exact hz a q1 (by omega)
theorem ai_29 {n k : Int} {v0 : zH} {QX : Nat → zH → Prop} {f g : Int → Int} (hW : Wok W) (hk : 0 ≤ k ∧ k ≤ 1000) (hb : ∀ a : Int, 0 ≤ a → a < wN W → (0 ≤ f a ∧ f a ≤ 1000000) ∧ 0 ≤ g a ∧ g a ≤ 4000) (hg : ∀ a : Int, 0 ≤ a → a < wN W → v0 (33 + 2) a = g a)
    (K : ∀ v' : zH, (∀ b : Int, b ≠ 33 + 7 → v' b = v0 b) → (∀ a : Int, 0 ≤ a → a < wN W → v' (33 + 7) a = f a + g a) → zJ l G 1 (d + 1) h_W_airAhead k_W_airAhead 115 Q QX 17 [(2, 0), (0, n), (0, k + 1), (3, 0)] [] v' 115) :
    ∀ (m : Nat) {i : Int} {v : zH}, 0 ≤ i → i + m = wN W → QC v w W c S → (∀ b : Int, b ≠ 33 + 7 → v b = v0 b) → (∀ a : Int, 0 ≤ a → a < wN W → v (33 + 7) a = if a < i then f a + g a else f a) →
    zJ l G 1 (d + 1) h_W_airAhead k_W_airAhead 115 Q QX 29 [(2, 0), (0, n), (0, k), (0, i)] [] v 115
  | 0, i, v, h0, hi, hQ, hf, hz => by
    have hw := hQ.2.1
    have w0 := (zwo_f hw).1
    refine zgo ck_W_airAhead 300 29 _ _ _ _ rfl (sg_W_airAhead_29 ?_)
    simp (disch := omega) only [zup_e, zup_ak, zup_j, Int.zero_add, hQ.1, hQ.2.2.2.1.2.2.1]
    refine ⟨by first | decide | omega, by first | decide | omega, by first | decide | omega, ⟨fun q1 => ⟨⟨by first | decide | omega, by first | decide | omega⟩, ?_⟩, fun q2 => ⟨by first | decide | omega, by first | decide | omega, by first | decide | omega, ⟨by first | decide | omega, by first | decide | omega⟩, by first | decide | omega, by first | decide | omega, by first | decide | omega, ⟨by first | decide | omega, by first | decide | omega⟩, ⟨by first | decide | omega, by first | decide | omega⟩, by first | decide | omega, ⟨by first | decide | omega, by first | decide | omega⟩, ⟨by first | decide | omega, by first | decide | omega⟩, ?_⟩⟩⟩
    try (any_goals (exfalso; omega))
    refine K v hf (fun a q1 q2 => ?_)
    rw [hz a q1 q2, if_pos (by omega)]
  | m + 1, i, v, h0, hi, hQ, hf, hz => by
    have hw := hQ.2.1
    have w0 := (zwo_f hw).1
    have hN := hW.2.2.2.1
    have z7 : zLN (33 + 7) = 24 := by decide
    have z2 : zLN (33 + 2) = 24 := by decide
    have e7 := hz i h0 (by omega)
    rw [if_neg (by omega)] at e7
    have e2 : v (33 + 2) i = g i := by rw [hf _ (by omega)]; exact hg i h0 (by omega)
    obtain ⟨b1, b2⟩ := hb i h0 (by omega)
    refine zgo ck_W_airAhead 300 29 _ _ _ _ rfl (sg_W_airAhead_29 ?_)
    simp (disch := omega) only [zup_e, zup_ak, zup_j, Int.zero_add, hQ.1, hQ.2.2.2.1.2.2.1, e7, e2]
    refine ⟨by first | decide | omega, by first | decide | omega, by first | decide | omega, ⟨fun q1 => ⟨⟨by first | decide | omega, by first | decide | omega⟩, ?_⟩, fun q2 => ⟨by first | decide | omega, by first | decide | omega, by first | decide | omega, ⟨by first | decide | omega, by first | decide | omega⟩, by first | decide | omega, by first | decide | omega, by first | decide | omega, ⟨by first | decide | omega, by first | decide | omega⟩, ⟨by first | decide | omega, by first | decide | omega⟩, by first | decide | omega, ⟨by first | decide | omega, by first | decide | omega⟩, ⟨by first | decide | omega, by first | decide | omega⟩, ?_⟩⟩⟩
    try (any_goals (exfalso; omega))
    refine ai_29 hW hk hb hg K m (by omega) (by omega) (QC_fr (fun b q0 q1 q2 q3 => zup_a (by omega)) (SK_fk hQ.2.2.2.2.2.2.1 (fun b q1 q2 => zup_a (by omega)) hQ.2.2.2.2.2.2.2) hQ) (fun b q => (zup_a q).trans (hf b q)) (fun a q1 q2 => ?_)
    by_cases e : a = i
    · subst e
      rw [zup_s, if_pos (by omega)]
    · rw [zup_j e, hz a q1 q2]
      by_cases q : a < i
      · rw [if_pos q, if_pos (by omega)]
      · rw [if_neg q, if_neg (by omega)]
theorem ai_17 {n : Nat} {v0 : zH} {c1 : zCo} {QX : Nat → zH → Prop} (hW : Wok W) (hn : n ≤ 200) (hc : Cok W c1) (hh : cH c1 ≤ 900000)
    (K : ∀ v' : zH, Fq v0 v' → QC v' w W c S → (∀ a : Int, 0 ≤ a → a < wN W → v' (33 + 7) a = sFa W (sSn S) (kR S) c1 n a) → Q (sAir W (sSn S) (kR S) c1 n) v') :
    ∀ (m i : Nat) {v : zH}, i + m = n → Fq v0 v → QC v w W c S → CO v 33 W (sSt W (sSn S) (kR S) c1 i) → (∀ a : Int, 0 ≤ a → a < wN W → v (33 + 7) a = sFa W (sSn S) (kR S) c1 i a) →
    zJ l G 1 (d + 6) h_W_airAhead k_W_airAhead 115 Q QX 17 [(2, 0), (0, (n : Int)), (0, (i : Int)), (3, 0)] [] v 115
  | 0, i, v, hi, hF, hQ, hA, hf => by
    have e : i = n := by omega
    subst e
    refine zgo ck_W_airAhead 300 17 _ _ _ _ rfl (sg_W_airAhead_17 ?_)
    simp (disch := omega) only [zup_e, zup_ak, zup_j, Int.zero_add]
    refine ⟨fun q1 => ⟨by first | decide | omega, by first | decide | omega, by first | decide | omega, ?_⟩, fun q2 => ⟨by first | decide | omega, by first | decide | omega, by first | decide | omega, by first | decide | omega, by first | decide | omega, ?_⟩⟩
    try (any_goals (exfalso; omega))
    refine c_W_sumOf hQ (by decide) (f := sFa W (sSn S) (kR S) c1 i) (fun a q1 q2 => ⟨hf a q1 q2, ?_⟩) ?_
    · have := sFa_b (sn := sSn S) (rn := kR S) (n := i) snOk_S hW hc (by omega) q1 q2
      omega
    · exact K v hF hQ hf
  | m + 1, i, v, hi, hF, hQ, hA, hf => by
    have hw := hQ.2.1
    have hc' := Cok_st (sn := sSn S) (rn := kR S) snOk_S hW hc i (by omega)
    refine zgo ck_W_airAhead 300 17 _ _ _ _ rfl (sg_W_airAhead_17 ?_)
    simp (disch := omega) only [zup_e, zup_ak, zup_j, Int.zero_add, hQ.1]
    refine ⟨fun q1 => ⟨by first | decide | omega, by first | decide | omega, by first | decide | omega, ?_⟩, fun q2 => ⟨by first | decide | omega, by first | decide | omega, by first | decide | omega, by first | decide | omega, by first | decide | omega, ?_⟩⟩
    try (any_goals (exfalso; omega))
    refine c_st hQ hc' hA (fun v1 g1 g2 g3 g4 => ?_)
    refine ai_29 hW (k := i) (by omega) (f := sFa W (sSn S) (kR S) c1 i) (g := sFk W (sSn S) (kR S) c1 i) (fun a q1 q2 => ?_) g4 (fun v2 r1 r2 => ?_) (wN W).toNat (by omega) (by have := hW.2.2.2.1; omega) g2 (fun _ _ => rfl) (fun a q1 q2 => ?_)
    · have h1 := sFa_b (sn := sSn S) (rn := kR S) (n := i) snOk_S hW hc (by omega) q1 q2
      have h2 := sFk_b (sn := sSn S) (rn := kR S) (n := i) snOk_S hW hc (by omega) q1 q2
      omega
    · have hF2 : Fq v1 v2 := fun b q0 q1 q2 q3 => r1 b (by omega)
      refine ai_17 hW hn hc hh K m (i + 1) (by omega) (Fq_tr hF (Fq_tr (Fr_Fq g1) hF2)) (QC_fr hF2 (SK_fk hQ.2.2.2.2.2.2.1 (fun b q1 q2 => r1 b (by omega)) g2.2.2.2.2.2.2.2) g2) (CO_fr (fun a q => r1 a (by omega)) g3) (fun a q1 q2 => ?_)
      rw [r2 a q1 q2]
      show _ = zsm _ i + sFk W (sSn S) (kR S) c1 (i : Int).toNat a
      rfl
    · rw [if_neg (by omega), g1 _ (by unfold fK; omega) (by omega) (by omega) (by omega) (by omega)]
      exact hf a q1 q2
theorem c_W_airAhead {n : Nat} {c1 : zCo} (hn : n ≤ 200) (hQ : QC v w W c S) (hc : Cok W c1) (hh : cH c1 ≤ 900000) (hO : CO v 33 W c1)
    (K : ∀ v' : zH, Fq v v' → QC v' w W c S → (∀ a : Int, 0 ≤ a → a < wN W → v' (33 + 7) a = sFa W (sSn S) (kR S) c1 n a) → Q (sAir W (sSn S) (kR S) c1 n) v') : zC l G 1 (d + 6) h_W_airAhead [(2, 0), (0, (n : Int))] v 115 Q := by
  have hW := hQ.2.2.1
  refine zC_at ok_W_airAhead ck_W_airAhead rfl rfl (sg_W_airAhead_0 ?_)
  refine ai_2 hW (fun v1 g1 g2 => ?_) (wN W).toNat (by omega) (by have := hW.2.2.2.1; omega) hQ (fun _ _ => rfl) (fun a q1 q2 => absurd q1 (by omega))
  have hF : Fq v v1 := fun b q0 q1 q2 q3 => g1 b (by omega)
  exact ai_17 hW hn hc hh K n 0 (by omega) hF (QC_fr hF (SK_fk hQ.2.2.2.2.2.2.1 (fun b q1 q2 => g1 b (by omega)) hQ.2.2.2.2.2.2.2) hQ) (CO_fr (fun a q => g1 a (by omega)) hO) (fun a q1 q2 => g2 a q1 q2)
end
