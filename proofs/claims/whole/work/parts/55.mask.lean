/-! THE REFERENCE: questions' ground: put aside, passed, taken back; nights -/
def MA (v : zH) (W : zWl) (c : zCo) : Prop := (∀ a : Int, isc (wR W) (wC W) a = true → v 101 a = cW c (ixn (wC W) a)) ∧ v 77 44 = cH c
/-- what a question may change in the reference -/
def Fz (v v' : zH) : Prop := (∀ b : Int, (b < 77 ∨ (78 ≤ b ∧ b ≤ 85) ∨ (88 ≤ b ∧ b ≤ 93) ∨ b = 95 ∨ b = 102 ∨ (107 ≤ b ∧ b ≤ 109) ∨ 113 ≤ b) → v' b = v b) ∧ ∀ k : Int, k ≠ 0 → k ≠ 36 → k ≠ 39 → k ≠ 44 → k ≠ 49 → k ≠ 50 → v' 77 k = v 77 k
theorem Fz_rf {v : zH} : Fz v v := ⟨fun _ _ => rfl, fun _ _ _ _ _ _ _ => rfl⟩
theorem Fz_tr {u v w : zH} (h : Fz u v) (g : Fz v w) : Fz u w := ⟨fun b a => (g.1 b a).trans (h.1 b a), fun k a1 a2 a3 a4 a5 a6 => (g.2 k a1 a2 a3 a4 a5 a6).trans (h.2 k a1 a2 a3 a4 a5 a6)⟩
theorem Fz_p {v v' : zH} (h : Fp v v') : Fz v v' := ⟨fun b a => h.1 b (by omega) (by omega) (by omega) (by omega) (by omega) (by omega) (by omega), fun k _ a _ _ _ _ => h.2 k a⟩
/-- one row alone changes, that a question may change -/
theorem Fz_1 {v v' : zH} {x : Int} (hx : ¬ (x ≤ 77 ∨ (78 ≤ x ∧ x ≤ 85) ∨ (88 ≤ x ∧ x ≤ 93) ∨ x = 95 ∨ x = 102 ∨ (107 ≤ x ∧ x ≤ 109) ∨ 113 ≤ x)) (h : ∀ b : Int, b ≠ x → v' b = v b) : Fz v v' := ⟨fun b a => h b (by omega), fun k _ _ _ _ _ _ => by rw [h 77 (by omega)]⟩
theorem MA_p {v v' : zH} {W : zWl} {c : zCo} (h : Fp v v') (k : MA v W c) : MA v' W c := by
  refine ⟨fun a ha => ?_, ?_⟩
  · rw [h.1 101 (by omega) (by omega) (by omega) (by omega) (by omega) (by omega) (by omega)]
    exact k.1 a ha
  · rw [h.2 44 (by omega)]
    exact k.2
/-- the pictures stay where rows and fields that they don't speak of change -/
theorem MQc_fr {v v' : zH} {W : zWl} {c : zCo} {S : zSk} (h : ∀ b : Int, (79 ≤ b ∧ b ≤ 85) ∨ (93 ≤ b ∧ b ≤ 97) → v' b = v b) (h77 : ∀ k : Int, (k = 13 ∨ (30 ≤ k ∧ k ≤ 34) ∨ (36 ≤ k ∧ k ≤ 39)) → v' 77 k = v 77 k) (k : MQc v W c S) : MQc v' W c S := by
  obtain ⟨hW, hM, hc, hO, hk, hS⟩ := k
  refine ⟨hW, MW_fr (fun j j1 j2 => h77 j (by omega)) (h 93 (by omega)) (fun o _ _ => by rw [h 94 (by omega)]; exact ⟨rfl, rfl, rfl⟩) (h 95 (by omega)) hM, hc, ⟨?_, ?_, ?_⟩, hk, MS_fr ⟨h77 13 (by omega), h77 37 (by omega), h77 38 (by omega)⟩ (h 79 (by omega)) (h 80 (by omega)) (h 82 (by omega)) (h 83 (by omega)) (h 84 (by omega)) (h 85 (by omega)) hS⟩
  · rw [h77 36 (by omega)]; exact hO.1
  · rw [h 97 (by omega), h 96 (by omega)]; exact hO.2.1
  · rw [h77 39 (by omega), h 94 (by omega)]; exact hO.2.2
theorem MQc_1 {v v' : zH} {W : zWl} {c : zCo} {S : zSk} {x : Int} (hx : ¬ (77 ≤ x ∧ x ≤ 85) ∧ ¬ (93 ≤ x ∧ x ≤ 97)) (h : ∀ b : Int, b ≠ x → v' b = v b) (k : MQc v W c S) : MQc v' W c S := MQc_fr (fun b q => h b (by omega)) (fun j _ => by rw [h 77 (by omega)]) k
theorem MA_1 {v v' : zH} {W : zWl} {c : zCo} {x : Int} (hx : x ≠ 77 ∧ x ≠ 101) (h : ∀ b : Int, b ≠ x → v' b = v b) (k : MA v W c) : MA v' W c := by
  unfold MA
  rw [h 101 (by omega), h 77 (by omega)]
  exact k
def QM (v : zH) (W : zWl) (c : zCo) (S : zSk) : Prop := MQc v W c S ∧ v 77 39 = -1 ∧ cH c ≤ 900000
theorem sSt_k {W : zWl} {sn : zSn} {rn : Int} {c : zCo} : ∀ n : Nat, cS (sSt W sn rn c n) = cS c ∧ cF (sSt W sn rn c n) = cF c ∧ cU (sSt W sn rn c n) = cU c
  | 0 => ⟨rfl, rfl, rfl⟩
  | n + 1 => sSt_k n
theorem is36 {W : zWl} (hW : Wok W) {a : Int} (ha : isc (wR W) (wC W) a = true) : 0 ≤ a ∧ a < 36 ∧ 0 ≤ ixn (wC W) a ∧ ixn (wC W) a < wN W := by
  have h := gE hW.1.2 hW.2.1 ha
  have := hW.2.2.1
  omega
section
variable {l : Launch} {G : zG} {d : Nat} {v : zH} {Q : Int → zH → Prop} {W : zWl} {c : zCo} {S : zSk}
theorem cp_2 {a b n : Int} {v0 : zH} {QX : Nat → zH → Prop} (ha : zCL a = 20 ∧ zLN a = n) (hb : zCL b = 20 ∧ n ≤ zLN b) (hab : a ≠ b) (hn : n ≤ 10000) (K : ∀ v' : zH, (∀ x : Int, x ≠ b → v' x = v0 x) → (∀ j : Int, 0 ≤ j → j < n → v' b j = v0 a j) → Q 0 v') :
    ∀ (m i : Nat) {v : zH}, (i : Int) + m = n → (∀ x : Int, x ≠ b → v x = v0 x) → (∀ j : Int, 0 ≤ j → j < i → v b j = v0 a j) → zJ l G 1 (d + 1) h_M_copy k_M_copy 115 Q QX 2 [(2, a), (2, b), (0, (i : Int))] [] v 115
  | m, i, v, hi, hF, hp => by
    obtain ⟨a1, a2⟩ := ha
    refine zgo ck_M_copy 300 2 _ _ _ _ rfl (sg_M_copy_2 ?_)
    rw [a2]
    match m, hi with
    | 0, hi =>
      refine ⟨by first | decide | omega | contradiction | exact absurd trivial (by assumption), ⟨fun q1 => ?_, fun q2 => ⟨by first | decide | omega | contradiction | exact absurd trivial (by assumption), ⟨by first | decide | omega | contradiction | exact absurd trivial (by assumption), by first | decide | omega | contradiction | exact absurd trivial (by assumption)⟩, by first | decide | omega | contradiction | exact absurd trivial (by assumption), ⟨by first | decide | omega | contradiction | exact absurd trivial (by assumption), by first | decide | omega | contradiction | exact absurd trivial (by assumption)⟩, ⟨by first | decide | omega | contradiction | exact absurd trivial (by assumption), by first | decide | omega | contradiction | exact absurd trivial (by assumption)⟩, ?_⟩⟩⟩
      try (any_goals (exfalso; first | omega | exact absurd trivial (by assumption)))
      exact K v hF (fun j h1 h2 => hp j h1 (by omega))
    | m + 1, hi =>
      refine ⟨by first | decide | omega | contradiction | exact absurd trivial (by assumption), ⟨fun q1 => ?_, fun q2 => ⟨by first | decide | omega | contradiction | exact absurd trivial (by assumption), ⟨by first | decide | omega | contradiction | exact absurd trivial (by assumption), by first | decide | omega | contradiction | exact absurd trivial (by assumption)⟩, by first | decide | omega | contradiction | exact absurd trivial (by assumption), ⟨by first | decide | omega | contradiction | exact absurd trivial (by assumption), by first | decide | omega | contradiction | exact absurd trivial (by assumption)⟩, ⟨by first | decide | omega | contradiction | exact absurd trivial (by assumption), by first | decide | omega | contradiction | exact absurd trivial (by assumption)⟩, ?_⟩⟩⟩
      try (any_goals (exfalso; first | omega | exact absurd trivial (by assumption)))
      refine cp_2 ⟨a1, a2⟩ hb hab hn K m (i + 1) (by omega) (fun x q => (zup_a q).trans (hF x q)) (fun j h1 h2 => ?_)
      by_cases e : j = i
      · rw [e, zup_s, hF a hab]
      · rw [zup_j e]
        exact hp j h1 (by omega)
theorem c_M_copy {a b n : Int} (ha : zCL a = 20 ∧ zLN a = n) (hb : zCL b = 20 ∧ n ≤ zLN b) (hab : a ≠ b) (hn : 0 ≤ n ∧ n ≤ 10000) (K : ∀ v' : zH, (∀ x : Int, x ≠ b → v' x = v x) → (∀ j : Int, 0 ≤ j → j < n → v' b j = v a j) → Q 0 v') : zC l G 1 (d + 1) h_M_copy [(2, a), (2, b)] v 115 Q := by
  refine zC_at ok_M_copy ck_M_copy rfl rfl (sg_M_copy_0 ?_)
  exact cp_2 ha hb hab hn.2 K n.toNat 0 (by omega) (fun _ _ => rfl) (fun j h1 h2 => by omega)
theorem c_M_putAside (hQ : MQc v W c S) (K : ∀ v' : zH, Fz v v' → (∀ k : Int, k ≠ 44 → v' 77 k = v 77 k) → (∀ b : Int, b ≠ 77 → b ≠ 101 → v' b = v b) → MQc v' W c S → MA v' W c → Q 0 v') : zC l G 1 (d + 2) h_M_putAside [(2, 77)] v 115 Q := by
  refine zC_at ok_M_putAside ck_M_putAside rfl rfl (sg_M_putAside_0 ?_)
  try simp (disch := omega) only [zup_e, zup_ak, zup_j, Int.zero_add, Int.reduceAdd, mz78, mz79, mz80, mz81, mz82, mz83, mz84, mz85, mz86, mz87, mz88, mz89, mz90, mz91, mz92, mz93, mz94, mz95, mz96, mz97, mz98, mz99, mz100, mz101, mz102, mz103, mz104, mz105, mz106, mz107, mz108, mz109, mz110, mz111, mz112, mz113]
  refine ⟨by first | decide | omega | contradiction | exact absurd trivial (by assumption), by first | decide | omega | contradiction | exact absurd trivial (by assumption), ?_⟩
  refine c_M_copy (n := 36) (by decide) (by decide) (by omega) (by omega) (fun v1 f1 f2 => ?_)
  refine ⟨by first | decide | omega | contradiction | exact absurd trivial (by assumption), by first | decide | omega | contradiction | exact absurd trivial (by assumption), ?_⟩
  have e36 : v1 77 36 = cH c := by rw [f1 77 (by omega)]; exact hQ.2.2.2.1.1
  rw [e36]
  have g1 : ∀ b : Int, b ≠ 77 → b ≠ 101 → (zupd v1 77 44 (cH c)) b = v b := fun b b1 b2 => (zup_a b1).trans (f1 b b2)
  have g2 : ∀ k : Int, k ≠ 44 → (zupd v1 77 44 (cH c)) 77 k = v 77 k := fun k q => (zup_j q).trans (by rw [f1 77 (by omega)])
  refine K _ ⟨fun b a => g1 b (by omega) (by omega), fun k _ _ _ a _ _ => g2 k a⟩ g2 g1 (MQc_fr (fun b q => g1 b (by omega) (by omega)) (fun k q => g2 k (by omega)) hQ) ⟨fun a ha => ?_, zup_s⟩
  obtain ⟨h1, h2, -⟩ := is36 hQ.1 ha
  rw [zup_a (by omega), f2 a h1 h2]
  exact (hQ.2.2.2.1.2.1 a ha).1
theorem c_M_takeBack {c1 : zCo} (hQ : MQc v W c1 S) (hA : MA v W c) (hc : Cok W c) (hs : cS c1 = cS c ∧ cF c1 = cF c ∧ cU c1 = cU c) (K : ∀ v' : zH, Fz v v' → (∀ k : Int, k ≠ 36 → v' 77 k = v 77 k) → (∀ b : Int, b ≠ 77 → b ≠ 97 → v' b = v b) → MQc v' W c S → Q 0 v') : zC l G 1 (d + 2) h_M_takeBack [(2, 77)] v 115 Q := by
  refine zC_at ok_M_takeBack ck_M_takeBack rfl rfl (sg_M_takeBack_0 ?_)
  try simp (disch := omega) only [zup_e, zup_ak, zup_j, Int.zero_add, Int.reduceAdd, mz78, mz79, mz80, mz81, mz82, mz83, mz84, mz85, mz86, mz87, mz88, mz89, mz90, mz91, mz92, mz93, mz94, mz95, mz96, mz97, mz98, mz99, mz100, mz101, mz102, mz103, mz104, mz105, mz106, mz107, mz108, mz109, mz110, mz111, mz112, mz113]
  refine ⟨by first | decide | omega | contradiction | exact absurd trivial (by assumption), by first | decide | omega | contradiction | exact absurd trivial (by assumption), ?_⟩
  refine c_M_copy (n := 36) (by decide) (by decide) (by omega) (by omega) (fun v1 f1 f2 => ?_)
  refine ⟨by first | decide | omega | contradiction | exact absurd trivial (by assumption), by first | decide | omega | contradiction | exact absurd trivial (by assumption), ?_⟩
  have e44 : v1 77 44 = cH c := by rw [f1 77 (by omega)]; exact hA.2
  rw [e44]
  have g1 : ∀ b : Int, b ≠ 77 → b ≠ 97 → (zupd v1 77 36 (cH c)) b = v b := fun b b1 b2 => (zup_a b1).trans (f1 b b2)
  have g2 : ∀ k : Int, k ≠ 36 → (zupd v1 77 36 (cH c)) 77 k = v 77 k := fun k q => (zup_j q).trans (by rw [f1 77 (by omega)])
  obtain ⟨hW, hM, hc1, hO, hk, hS⟩ := hQ
  refine K _ ⟨fun b a => g1 b (by omega) (by omega), fun k _ a _ _ _ _ => g2 k a⟩ g2 g1 ⟨hW, MW_fr (fun j j1 j2 => g2 j (by omega)) (g1 93 (by omega) (by omega)) (fun o _ _ => by rw [g1 94 (by omega) (by omega)]; exact ⟨rfl, rfl, rfl⟩) (g1 95 (by omega) (by omega)) hM, hc, ⟨zup_s, fun a ha => ⟨?_, ?_⟩, ?_⟩, hk, MS_fr ⟨g2 13 (by omega), g2 37 (by omega), g2 38 (by omega)⟩ (g1 79 (by omega) (by omega)) (g1 80 (by omega) (by omega)) (g1 82 (by omega) (by omega)) (g1 83 (by omega) (by omega)) (g1 84 (by omega) (by omega)) (g1 85 (by omega) (by omega)) hS⟩
  · obtain ⟨h1, h2, -⟩ := is36 hW ha
    rw [zup_a (by omega), f2 a h1 h2]
    exact hA.1 a ha
  · rw [g1 96 (by omega) (by omega), ← hs.1]
    exact (hO.2.1 a ha).2
  · rw [g2 39 (by omega), g1 94 (by omega) (by omega), ← hs.2.1, ← hs.2.2]
    exact hO.2.2
theorem pa_2 {n : Nat} {v0 : zH} {QX : Nat → zH → Prop} (hQ0 : MQc v0 W c S) (hn : cH c + n ≤ 1000000) (hn2 : n ≤ 100000) (K : ∀ v' : zH, Fp v0 v' → MQc v' W (sSt W (sSn S) (kR S) c n) S → (1 ≤ n → ∀ a : Int, isc (wR W) (wC W) a = true → v' 100 a = sFk W (sSn S) (kR S) c (n - 1) (ixn (wC W) a)) → Q 0 v') :
    ∀ (m i : Nat) {v : zH}, i + m = n → Fp v0 v → MQc v W (sSt W (sSn S) (kR S) c i) S → (1 ≤ i → ∀ a : Int, isc (wR W) (wC W) a = true → v 100 a = sFk W (sSn S) (kR S) c (i - 1) (ixn (wC W) a)) → zJ l G 1 (d + 7) h_M_passAll k_M_passAll 115 Q QX 2 [(2, 77), (0, (n : Int)), (0, (i : Int))] [] v 115
  | m, i, v, hi, hF, hQ, hf => by
    match m, hi with
    | 0, hi =>
      have e : i = n := by omega
      subst e
      refine zgo ck_M_passAll 300 2 _ _ _ _ rfl (sg_M_passAll_2 ?_)
      try simp (disch := omega) only [zup_e, zup_ak, zup_j, Int.zero_add, Int.reduceAdd, mz78, mz79, mz80, mz81, mz82, mz83, mz84, mz85, mz86, mz87, mz88, mz89, mz90, mz91, mz92, mz93, mz94, mz95, mz96, mz97, mz98, mz99, mz100, mz101, mz102, mz103, mz104, mz105, mz106, mz107, mz108, mz109, mz110, mz111, mz112, mz113]
      refine ⟨fun q1 => ?_, fun q2 => ⟨by first | decide | omega | contradiction | exact absurd trivial (by assumption), ?_⟩⟩
      try (any_goals (exfalso; first | omega | exact absurd trivial (by assumption)))
      exact K v hF hQ hf
    | m + 1, hi =>
      have hh := sSt_H (W := W) (sn := sSn S) (rn := kR S) (c := c) i
      refine zgo ck_M_passAll 300 2 _ _ _ _ rfl (sg_M_passAll_2 ?_)
      try simp (disch := omega) only [zup_e, zup_ak, zup_j, Int.zero_add, Int.reduceAdd, mz78, mz79, mz80, mz81, mz82, mz83, mz84, mz85, mz86, mz87, mz88, mz89, mz90, mz91, mz92, mz93, mz94, mz95, mz96, mz97, mz98, mz99, mz100, mz101, mz102, mz103, mz104, mz105, mz106, mz107, mz108, mz109, mz110, mz111, mz112, mz113]
      refine ⟨fun q1 => ?_, fun q2 => ⟨by first | decide | omega | contradiction | exact absurd trivial (by assumption), ?_⟩⟩
      try (any_goals (exfalso; first | omega | exact absurd trivial (by assumption)))
      refine c_M_pass hQ (by omega) (fun v1 f1 f2 f3 => ?_)
      refine ⟨⟨by first | decide | omega | contradiction | exact absurd trivial (by assumption), by first | decide | omega | contradiction | exact absurd trivial (by assumption)⟩, ?_⟩
      exact pa_2 hQ0 hn hn2 K m (i + 1) (by omega) (Fp_tr hF f1) f2 (fun _ a ha => (f3 a ha).1)
theorem c_M_passAll {n : Nat} (hQ : MQc v W c S) (hn : cH c + n ≤ 1000000) (hn2 : n ≤ 100000) (K : ∀ v' : zH, Fp v v' → MQc v' W (sSt W (sSn S) (kR S) c n) S → (1 ≤ n → ∀ a : Int, isc (wR W) (wC W) a = true → v' 100 a = sFk W (sSn S) (kR S) c (n - 1) (ixn (wC W) a)) → Q 0 v') : zC l G 1 (d + 7) h_M_passAll [(2, 77), (0, (n : Int))] v 115 Q := by
  refine zC_at ok_M_passAll ck_M_passAll rfl rfl (sg_M_passAll_0 ?_)
  try simp (disch := omega) only [zup_e, zup_ak, zup_j, Int.zero_add, Int.reduceAdd, mz78, mz79, mz80, mz81, mz82, mz83, mz84, mz85, mz86, mz87, mz88, mz89, mz90, mz91, mz92, mz93, mz94, mz95, mz96, mz97, mz98, mz99, mz100, mz101, mz102, mz103, mz104, mz105, mz106, mz107, mz108, mz109, mz110, mz111, mz112, mz113]
  exact pa_2 hQ hn hn2 K n 0 (by omega) Fp_rf hQ (fun h => by omega)
-- the night
theorem ln_20 {k : Nat} {v0 : zH} {f g : Int → Int} {QX : Nat → zH → Prop} (hW : Wok W) (hk : k ≤ 8) (hg : ∀ a : Int, isc (wR W) (wC W) a = true → v0 100 a = g (ixn (wC W) a)) (hf : 1 ≤ k → ∀ a : Int, isc (wR W) (wC W) a = true → v0 103 a = f (ixn (wC W) a))
    (K : ∀ v' : zH, (∀ b : Int, b ≠ 103 → v' b = v0 b) → (∀ a : Int, isc (wR W) (wC W) a = true → v' 103 a = if k = 0 then g (ixn (wC W) a) else min (f (ixn (wC W) a)) (g (ixn (wC W) a))) → zJ l G 1 (d + 8) h_M_layNight k_M_layNight 115 Q QX 13 [(2, 77), (0, (k : Int) + 1), (3, 0)] [] v' 115) :
    ∀ (m i : Nat) {v : zH}, i + m = 36 → (∀ b : Int, b ≠ 103 → v b = v0 b) → (∀ a : Int, isc (wR W) (wC W) a = true → a < i → v 103 a = if k = 0 then g (ixn (wC W) a) else min (f (ixn (wC W) a)) (g (ixn (wC W) a))) → (∀ a : Int, i ≤ a → v 103 a = v0 103 a) →
    zJ l G 1 (d + 8) h_M_layNight k_M_layNight 115 Q QX 20 [(2, 77), (0, (k : Int)), (0, (i : Int))] [] v 115
  | m, i, v, hi, hF, hp, hq => by
    match m, hi with
    | 0, hi =>
      refine zgo ck_M_layNight 300 20 _ _ _ _ rfl (sg_M_layNight_20 ?_)
      try simp (disch := omega) only [zup_e, zup_ak, zup_j, Int.zero_add, Int.reduceAdd, mz78, mz79, mz80, mz81, mz82, mz83, mz84, mz85, mz86, mz87, mz88, mz89, mz90, mz91, mz92, mz93, mz94, mz95, mz96, mz97, mz98, mz99, mz100, mz101, mz102, mz103, mz104, mz105, mz106, mz107, mz108, mz109, mz110, mz111, mz112, mz113]
      refine ⟨fun q1 => ⟨⟨by first | decide | omega | contradiction | exact absurd trivial (by assumption), by first | decide | omega | contradiction | exact absurd trivial (by assumption)⟩, ?_⟩, fun q2 => ⟨by first | decide | omega | contradiction | exact absurd trivial (by assumption), ⟨fun q3 => ⟨by first | decide | omega | contradiction | exact absurd trivial (by assumption), by first | decide | omega | contradiction | exact absurd trivial (by assumption), ⟨by first | decide | omega | contradiction | exact absurd trivial (by assumption), by first | decide | omega | contradiction | exact absurd trivial (by assumption)⟩, by first | decide | omega | contradiction | exact absurd trivial (by assumption), by first | decide | omega | contradiction | exact absurd trivial (by assumption), ⟨by first | decide | omega | contradiction | exact absurd trivial (by assumption), by first | decide | omega | contradiction | exact absurd trivial (by assumption)⟩, by first | decide | omega | contradiction | exact absurd trivial (by assumption), ⟨by first | decide | omega | contradiction | exact absurd trivial (by assumption), by first | decide | omega | contradiction | exact absurd trivial (by assumption)⟩, ⟨by first | decide | omega | contradiction | exact absurd trivial (by assumption), by first | decide | omega | contradiction | exact absurd trivial (by assumption)⟩, ?_⟩, fun q4 => ⟨by first | decide | omega | contradiction | exact absurd trivial (by assumption), by first | decide | omega | contradiction | exact absurd trivial (by assumption), ⟨by first | decide | omega | contradiction | exact absurd trivial (by assumption), by first | decide | omega | contradiction | exact absurd trivial (by assumption)⟩, by first | decide | omega | contradiction | exact absurd trivial (by assumption), ⟨by first | decide | omega | contradiction | exact absurd trivial (by assumption), by first | decide | omega | contradiction | exact absurd trivial (by assumption)⟩, ⟨by first | decide | omega | contradiction | exact absurd trivial (by assumption), by first | decide | omega | contradiction | exact absurd trivial (by assumption)⟩, ?_⟩⟩⟩⟩
      try (any_goals (exfalso; first | omega | exact absurd trivial (by assumption)))
      exact K v hF (fun a ha => hp a ha (by
        have := is36 hW ha
        omega))
    | m + 1, hi =>
      have e100 : v 100 i = v0 100 i := by rw [hF 100 (by omega)]
      have go : ∀ y : Int, (isc (wR W) (wC W) i = true → y = if k = 0 then g (ixn (wC W) i) else min (f (ixn (wC W) i)) (g (ixn (wC W) i))) → zJ l G 1 (d + 8) h_M_layNight k_M_layNight 115 Q QX 20 [(2, 77), (0, (k : Int)), (0, (i : Int) + 1)] [] (zupd v 103 i y) 115 := by
        intro y hy
        refine ln_20 hW hk hg hf K m (i + 1) (by omega) (fun b q => (zup_a q).trans (hF b q)) (fun a h1 h2 => ?_) (fun a h1 => ?_)
        · by_cases e : a = i
          · rw [e] at h1 ⊢
            rw [zup_s]
            exact hy h1
          · rw [zup_j e]
            exact hp a h1 (by omega)
        · rw [zup_j (by omega)]
          exact hq a (by omega)
      by_cases hk0 : k = 0
      · refine zgo ck_M_layNight 300 20 _ _ _ _ rfl (sg_M_layNight_20 ?_)
        try simp (disch := omega) only [zup_e, zup_ak, zup_j, Int.zero_add, Int.reduceAdd, mz78, mz79, mz80, mz81, mz82, mz83, mz84, mz85, mz86, mz87, mz88, mz89, mz90, mz91, mz92, mz93, mz94, mz95, mz96, mz97, mz98, mz99, mz100, mz101, mz102, mz103, mz104, mz105, mz106, mz107, mz108, mz109, mz110, mz111, mz112, mz113, e100]
        refine ⟨fun q1 => ⟨⟨by first | decide | omega | contradiction | exact absurd trivial (by assumption), by first | decide | omega | contradiction | exact absurd trivial (by assumption)⟩, ?_⟩, fun q2 => ⟨by first | decide | omega | contradiction | exact absurd trivial (by assumption), ⟨fun q3 => ⟨by first | decide | omega | contradiction | exact absurd trivial (by assumption), by first | decide | omega | contradiction | exact absurd trivial (by assumption), ⟨by first | decide | omega | contradiction | exact absurd trivial (by assumption), by first | decide | omega | contradiction | exact absurd trivial (by assumption)⟩, by first | decide | omega | contradiction | exact absurd trivial (by assumption), by first | decide | omega | contradiction | exact absurd trivial (by assumption), ⟨by first | decide | omega | contradiction | exact absurd trivial (by assumption), by first | decide | omega | contradiction | exact absurd trivial (by assumption)⟩, by first | decide | omega | contradiction | exact absurd trivial (by assumption), ⟨by first | decide | omega | contradiction | exact absurd trivial (by assumption), by first | decide | omega | contradiction | exact absurd trivial (by assumption)⟩, ⟨by first | decide | omega | contradiction | exact absurd trivial (by assumption), by first | decide | omega | contradiction | exact absurd trivial (by assumption)⟩, ?_⟩, fun q4 => ⟨by first | decide | omega | contradiction | exact absurd trivial (by assumption), by first | decide | omega | contradiction | exact absurd trivial (by assumption), ⟨by first | decide | omega | contradiction | exact absurd trivial (by assumption), by first | decide | omega | contradiction | exact absurd trivial (by assumption)⟩, by first | decide | omega | contradiction | exact absurd trivial (by assumption), ⟨by first | decide | omega | contradiction | exact absurd trivial (by assumption), by first | decide | omega | contradiction | exact absurd trivial (by assumption)⟩, ⟨by first | decide | omega | contradiction | exact absurd trivial (by assumption), by first | decide | omega | contradiction | exact absurd trivial (by assumption)⟩, ?_⟩⟩⟩⟩
        try (any_goals (exfalso; first | omega | exact absurd trivial (by assumption)))
        exact go _ (fun h => by rw [if_pos hk0]; exact hg _ h)
      · refine zgo ck_M_layNight 300 20 _ _ _ _ rfl (sg_M_layNight_20 ?_)
        try simp (disch := omega) only [zup_e, zup_ak, zup_j, Int.zero_add, Int.reduceAdd, mz78, mz79, mz80, mz81, mz82, mz83, mz84, mz85, mz86, mz87, mz88, mz89, mz90, mz91, mz92, mz93, mz94, mz95, mz96, mz97, mz98, mz99, mz100, mz101, mz102, mz103, mz104, mz105, mz106, mz107, mz108, mz109, mz110, mz111, mz112, mz113, e100]
        refine ⟨fun q1 => ⟨⟨by first | decide | omega | contradiction | exact absurd trivial (by assumption), by first | decide | omega | contradiction | exact absurd trivial (by assumption)⟩, ?_⟩, fun q2 => ⟨by first | decide | omega | contradiction | exact absurd trivial (by assumption), ⟨fun q3 => ⟨by first | decide | omega | contradiction | exact absurd trivial (by assumption), by first | decide | omega | contradiction | exact absurd trivial (by assumption), ⟨by first | decide | omega | contradiction | exact absurd trivial (by assumption), by first | decide | omega | contradiction | exact absurd trivial (by assumption)⟩, by first | decide | omega | contradiction | exact absurd trivial (by assumption), by first | decide | omega | contradiction | exact absurd trivial (by assumption), ⟨by first | decide | omega | contradiction | exact absurd trivial (by assumption), by first | decide | omega | contradiction | exact absurd trivial (by assumption)⟩, by first | decide | omega | contradiction | exact absurd trivial (by assumption), ⟨by first | decide | omega | contradiction | exact absurd trivial (by assumption), by first | decide | omega | contradiction | exact absurd trivial (by assumption)⟩, ⟨by first | decide | omega | contradiction | exact absurd trivial (by assumption), by first | decide | omega | contradiction | exact absurd trivial (by assumption)⟩, ?_⟩, fun q4 => ⟨by first | decide | omega | contradiction | exact absurd trivial (by assumption), by first | decide | omega | contradiction | exact absurd trivial (by assumption), ⟨by first | decide | omega | contradiction | exact absurd trivial (by assumption), by first | decide | omega | contradiction | exact absurd trivial (by assumption)⟩, by first | decide | omega | contradiction | exact absurd trivial (by assumption), ⟨by first | decide | omega | contradiction | exact absurd trivial (by assumption), by first | decide | omega | contradiction | exact absurd trivial (by assumption)⟩, ⟨by first | decide | omega | contradiction | exact absurd trivial (by assumption), by first | decide | omega | contradiction | exact absurd trivial (by assumption)⟩, ?_⟩⟩⟩⟩
        try (any_goals (exfalso; first | omega | exact absurd trivial (by assumption)))
        refine go _ (fun h => ?_)
        rw [if_neg hk0, hq i (by omega), hf (by omega) _ h, hg _ h]
theorem ln_13 {c0 : zCo} {v0 : zH} {QX : Nat → zH → Prop} (hc0 : Cok W c0) (hh : cH c + 9 ≤ 1000000) (hs : cS c = cS c0 ∧ cF c = cF c0 ∧ cU c = cU c0) (hW : Wok W)
    (K : ∀ v' : zH, Fz v0 v' → v' 77 39 = v0 77 39 → (∀ k : Int, k ≠ 36 → v' 77 k = v0 77 k) → v' 94 = v0 94 → v' 96 = v0 96 → (∀ b : Int, 104 ≤ b → v' b = v0 b) → MQc v' W c0 S → (∀ a : Int, isc (wR W) (wC W) a = true → v' 103 a = sMn (fun k => sFk W (sSn S) (kR S) c k (ixn (wC W) a)) 9) → Q 0 v') :
    ∀ (m k : Nat) {v : zH}, k + m = 9 → Fz v0 v → (∀ k : Int, k ≠ 36 → v 77 k = v0 77 k) → v 94 = v0 94 → v 96 = v0 96 → (∀ b : Int, 104 ≤ b → v b = v0 b) → MQc v W (sSt W (sSn S) (kR S) c k) S → MA v W c0 → (1 ≤ k → ∀ a : Int, isc (wR W) (wC W) a = true → v 103 a = sMn (fun k => sFk W (sSn S) (kR S) c k (ixn (wC W) a)) k) →
    zJ l G 1 (d + 8) h_M_layNight k_M_layNight 115 Q QX 13 [(2, 77), (0, (k : Int)), (3, 0)] [] v 115
  | m, k, v, hk, hF, h77, h94, h96, h104, hQ, hA, hn => by
    match m, hk with
    | 0, hk =>
      have e : k = 9 := by omega
      subst e
      have hs1 := sSt_k (W := W) (sn := sSn S) (rn := kR S) (c := c) 9
      refine zgo ck_M_layNight 300 13 _ _ _ _ rfl (sg_M_layNight_13 ?_)
      try simp (disch := omega) only [zup_e, zup_ak, zup_j, Int.zero_add, Int.reduceAdd, mz78, mz79, mz80, mz81, mz82, mz83, mz84, mz85, mz86, mz87, mz88, mz89, mz90, mz91, mz92, mz93, mz94, mz95, mz96, mz97, mz98, mz99, mz100, mz101, mz102, mz103, mz104, mz105, mz106, mz107, mz108, mz109, mz110, mz111, mz112, mz113]
      refine ⟨fun q1 => ⟨by first | decide | omega | contradiction | exact absurd trivial (by assumption), ?_⟩, fun q2 => ⟨by first | decide | omega | contradiction | exact absurd trivial (by assumption), ?_⟩⟩
      try (any_goals (exfalso; first | omega | exact absurd trivial (by assumption)))
      refine c_M_takeBack hQ hA hc0 ⟨hs1.1.trans hs.1, hs1.2.1.trans hs.2.1, hs1.2.2.trans hs.2.2⟩ (fun v1 f1 f2 f3 f4 => ?_)
      refine K v1 (Fz_tr hF f1) ((f2 39 (by omega)).trans (h77 39 (by omega))) (fun k q => (f2 k q).trans (h77 k q)) ((f3 94 (by omega) (by omega)).trans h94) ((f3 96 (by omega) (by omega)).trans h96) (fun b q => (f3 b (by omega) (by omega)).trans (h104 b q)) f4 (fun a ha => ?_)
      rw [f3 103 (by omega) (by omega)]
      exact hn (by omega) a ha
    | m + 1, hk =>
      have hh1 := sSt_H (W := W) (sn := sSn S) (rn := kR S) (c := c) k
      refine zgo ck_M_layNight 300 13 _ _ _ _ rfl (sg_M_layNight_13 ?_)
      try simp (disch := omega) only [zup_e, zup_ak, zup_j, Int.zero_add, Int.reduceAdd, mz78, mz79, mz80, mz81, mz82, mz83, mz84, mz85, mz86, mz87, mz88, mz89, mz90, mz91, mz92, mz93, mz94, mz95, mz96, mz97, mz98, mz99, mz100, mz101, mz102, mz103, mz104, mz105, mz106, mz107, mz108, mz109, mz110, mz111, mz112, mz113]
      refine ⟨fun q1 => ⟨by first | decide | omega | contradiction | exact absurd trivial (by assumption), ?_⟩, fun q2 => ⟨by first | decide | omega | contradiction | exact absurd trivial (by assumption), ?_⟩⟩
      try (any_goals (exfalso; first | omega | exact absurd trivial (by assumption)))
      refine c_M_pass hQ (by omega) (fun v1 f1 f2 f3 => ?_)
      refine ln_20 (k := k) (f := fun x => sMn (fun k => sFk W (sSn S) (kR S) c k x) k) (g := fun x => sFk W (sSn S) (kR S) c k x) hW (by omega) (fun a ha => (f3 a ha).1) (fun h1 a ha => by rw [f1.1 103 (by omega) (by omega) (by omega) (by omega) (by omega) (by omega) (by omega)]; exact hn h1 a ha) (fun v2 g1 g2 => ?_) 36 0 (by omega) (fun _ _ => rfl) (fun a h1 h2 => by
        have := is36 hW h1
        omega) (fun _ _ => rfl)
      refine ln_13 hc0 hh hs hW K m (k + 1) (by omega) (Fz_tr hF (Fz_tr (Fz_p f1) (Fz_1 (x := 103) (by omega) g1))) (fun j q => by rw [g1 77 (by omega), f1.2 j q]; exact h77 j q) (by rw [g1 94 (by omega), f1.1 94 (by omega) (by omega) (by omega) (by omega) (by omega) (by omega) (by omega)]; exact h94) (by rw [g1 96 (by omega), f1.1 96 (by omega) (by omega) (by omega) (by omega) (by omega) (by omega) (by omega)]; exact h96) (fun b q => by rw [g1 b (by omega), f1.1 b (by omega) (by omega) (by omega) (by omega) (by omega) (by omega) (by omega)]; exact h104 b q) (MQc_1 (by omega) g1 f2) (MA_1 (by omega) g1 (MA_p f1 hA)) (fun _ a ha => ?_)
      rw [g2 a ha]
      match k with
      | 0 => rfl
      | k + 1 => rw [if_neg (by omega)]; rfl
theorem ln_2 {c0 : zCo} {v0 : zH} {QX : Nat → zH → Prop} (hc0 : Cok W c0) (hh : cH c0 + 40 ≤ 1000000) (hW : Wok W)
    (K : ∀ v' : zH, Fz v0 v' → v' 77 39 = v0 77 39 → (∀ k : Int, k ≠ 36 → v' 77 k = v0 77 k) → v' 94 = v0 94 → v' 96 = v0 96 → (∀ b : Int, 104 ≤ b → v' b = v0 b) → MQc v' W c0 S → (∀ a : Int, isc (wR W) (wC W) a = true → v' 103 a = sNi W (sSn S) (kR S) c0 (ixn (wC W) a)) → Q 0 v') :
    ∀ (m k : Nat) {v : zH}, (k : Int) + m = sWk c0 → Fz v0 v → (∀ k : Int, k ≠ 36 → v 77 k = v0 77 k) → v 94 = v0 94 → v 96 = v0 96 → (∀ b : Int, 104 ≤ b → v b = v0 b) → MQc v W (sSt W (sSn S) (kR S) c0 k) S → MA v W c0 →
    zJ l G 1 (d + 8) h_M_layNight k_M_layNight 115 Q QX 2 [(2, 77), (3, 0), (3, 0)] [] v 115
  | m, k, v, hk, hF, h77, h94, h96, h104, hQ, hA => by
    have hh1 := sSt_H (W := W) (sn := sSn S) (rn := kR S) (c := c0) k
    have hb := sWk_b (c := c0)
    have hcb := hc0.1
    have e36 : v 77 36 = cH c0 + k := by rw [hQ.2.2.2.1.1]; exact hh1
    have et : (cH c0 + (k : Int)).tmod 24 = (cH c0 + k) % 24 := ztm (by omega)
    have hw : sWk c0 = (20 - cH c0 % 24 + 24) % 24 := rfl
    match m, hk with
    | 0, hk =>
      have hk' : k = (sWk c0).toNat := by omega
      have hs1 := sSt_k (W := W) (sn := sSn S) (rn := kR S) (c := c0) k
      refine zgo ck_M_layNight 300 2 _ _ _ _ rfl (sg_M_layNight_2 ?_)
      try simp (disch := omega) only [zup_e, zup_ak, zup_j, Int.zero_add, Int.reduceAdd, mz78, mz79, mz80, mz81, mz82, mz83, mz84, mz85, mz86, mz87, mz88, mz89, mz90, mz91, mz92, mz93, mz94, mz95, mz96, mz97, mz98, mz99, mz100, mz101, mz102, mz103, mz104, mz105, mz106, mz107, mz108, mz109, mz110, mz111, mz112, mz113, e36, et]
      refine ⟨by first | decide | omega | contradiction | exact absurd trivial (by assumption), ⟨fun q1 => ?_, fun q2 => ⟨by first | decide | omega | contradiction | exact absurd trivial (by assumption), ?_⟩⟩⟩
      try (any_goals (exfalso; first | omega | exact absurd trivial (by assumption)))
      refine ln_13 (c := sSt W (sSn S) (kR S) c0 k) hc0 (by omega) hs1 hW (fun v' a1 a2 a3 a4 a5 a6 a7 a8 => K v' a1 a2 a3 a4 a5 a6 a7 (fun a ha => ?_)) 9 0 (by omega) hF h77 h94 h96 h104 hQ hA (fun h => by omega)
      rw [a8 a ha, hk']
      rfl
    | m + 1, hk =>
      refine zgo ck_M_layNight 300 2 _ _ _ _ rfl (sg_M_layNight_2 ?_)
      try simp (disch := omega) only [zup_e, zup_ak, zup_j, Int.zero_add, Int.reduceAdd, mz78, mz79, mz80, mz81, mz82, mz83, mz84, mz85, mz86, mz87, mz88, mz89, mz90, mz91, mz92, mz93, mz94, mz95, mz96, mz97, mz98, mz99, mz100, mz101, mz102, mz103, mz104, mz105, mz106, mz107, mz108, mz109, mz110, mz111, mz112, mz113, e36, et]
      refine ⟨by first | decide | omega | contradiction | exact absurd trivial (by assumption), ⟨fun q1 => ?_, fun q2 => ⟨by first | decide | omega | contradiction | exact absurd trivial (by assumption), ?_⟩⟩⟩
      try (any_goals (exfalso; first | omega | exact absurd trivial (by assumption)))
      refine c_M_pass hQ (by omega) (fun v1 f1 f2 f3 => ?_)
      exact ln_2 hc0 hh hW K m (k + 1) (by omega) (Fz_tr hF (Fz_p f1)) (fun j q => (f1.2 j q).trans (h77 j q)) (by rw [f1.1 94 (by omega) (by omega) (by omega) (by omega) (by omega) (by omega) (by omega)]; exact h94) (by rw [f1.1 96 (by omega) (by omega) (by omega) (by omega) (by omega) (by omega) (by omega)]; exact h96) (fun b q => by rw [f1.1 b (by omega) (by omega) (by omega) (by omega) (by omega) (by omega) (by omega)]; exact h104 b q) f2 (MA_p f1 hA)
theorem c_M_layNight (hQ : MQc v W c S) (hh : cH c + 40 ≤ 1000000) (K : ∀ v' : zH, Fz v v' → (∀ k : Int, k ≠ 36 → k ≠ 44 → v' 77 k = v 77 k) → v' 94 = v 94 → v' 96 = v 96 → (∀ b : Int, 104 ≤ b → v' b = v b) → MQc v' W c S → (∀ a : Int, isc (wR W) (wC W) a = true → v' 103 a = sNi W (sSn S) (kR S) c (ixn (wC W) a)) → Q 0 v') : zC l G 1 (d + 8) h_M_layNight [(2, 77)] v 115 Q := by
  have hb := sWk_b (c := c)
  refine zC_at ok_M_layNight ck_M_layNight rfl rfl (sg_M_layNight_0 ?_)
  try simp (disch := omega) only [zup_e, zup_ak, zup_j, Int.zero_add, Int.reduceAdd, mz78, mz79, mz80, mz81, mz82, mz83, mz84, mz85, mz86, mz87, mz88, mz89, mz90, mz91, mz92, mz93, mz94, mz95, mz96, mz97, mz98, mz99, mz100, mz101, mz102, mz103, mz104, mz105, mz106, mz107, mz108, mz109, mz110, mz111, mz112, mz113]
  refine ⟨by first | decide | omega | contradiction | exact absurd trivial (by assumption), ?_⟩
  refine c_M_putAside hQ (fun v1 f1 f2 f3 f4 f5 => ?_)
  exact ln_2 hQ.2.2.1 hh hQ.1 (fun v' a1 a2 a3 a4 a5 a6 a7 a8 => K v' (Fz_tr f1 a1) (fun k q1 q2 => (a3 k q1).trans (f2 k q2)) (a4.trans (f3 94 (by omega) (by omega))) (a5.trans (f3 96 (by omega) (by omega))) (fun b q => (a6 b q).trans (f3 b (by omega) (by omega))) a7 a8) (sWk c).toNat 0 (by omega) Fz_rf (fun _ _ => rfl) rfl rfl (fun _ _ => rfl) f4 f5
end
