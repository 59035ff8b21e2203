/-! THE CLASS: the questions' answers, second half -/
section
variable {l : Launch} {G : zG} {d : Nat} {v : zH} {Q : Int → zH → Prop} {w : Int} {W : zWl} {c : zCo} {S : zSk}
theorem c_nm {a : Int} (hQ : QC v w W c S) (ha : 0 ≤ a ∧ a < wN W) (K : Q (nmi (wC W) a) v) : zC l G 1 (d + 1) h_Wa_nameOf [(2, w), (0, a)] v 115 Q := by
  have hw := hQ.2.1
  have hW := hQ.2.2.1
  have hl := hQ.2.2.2.1
  obtain ⟨e9, e10, -, -⟩ := hl.2.2.2.2.2.2.2.2.2 a ha.1 ha.2
  have hN := hW.2.2.2.1
  have hg := gA (R := wR W) hW.2.1 (a := a) (by have := hW.2.2.1; omega)
  have h1 := hW.1
  have h2 := hW.2.1
  have h3 := hl.2.2.1
  obtain ⟨w0, w1, w3, w5, ⟨w7, w7'⟩, ⟨w8, w8'⟩, ⟨w9, w9'⟩, ⟨w10, w10'⟩, ⟨w11, w11'⟩, ⟨w12, w12'⟩⟩ := zwo_f hw
  refine zC_at ok_Wa_nameOf ck_Wa_nameOf rfl rfl (sg_Wa_nameOf_0 ?_)
  rw [h3, e9, e10]
  refine ⟨fun q1 => ?_, fun q2 => ⟨by first | decide | omega, ⟨fun q3 => ⟨by first | decide | omega, by first | decide | omega, ⟨by first | decide | omega, by first | decide | omega⟩, ⟨by first | decide | omega, by first | decide | omega⟩, by first | decide | omega, by first | decide | omega, ⟨by first | decide | omega, by first | decide | omega⟩, ⟨by first | decide | omega, by first | decide | omega⟩, ?_⟩, fun q4 => ?_⟩⟩⟩
  try (any_goals (exfalso; first | omega | exact absurd trivial (by assumption)))
  exact K
theorem nm_b (hW : Wok W) {a : Int} (ha : 0 ≤ a ∧ a < wN W) : 0 ≤ nmi (wC W) a ∧ nmi (wC W) a ≤ 35 := by
  have hg := gA (R := wR W) hW.2.1 (a := a) (by have := hW.2.2.1; omega)
  have h1 := hW.1
  have h2 := hW.2.1
  unfold nmi
  omega
-- hours ahead, one after the other
theorem c_gb {c1 : zCo} {a : Int} (hQ : QC v w W c S) (hc : Cok W c1) (hO : CO v 33 W c1) (ha : 0 ≤ a ∧ a < wN W) (K : Q (sGiv W c1 a) v) : zC l G 1 (d + 2) h_Co_givenBy [(2, 33), (0, a), (2, w)] v 115 Q := by
  have hN := hQ.2.2.1.2.2.2.1
  obtain ⟨e1, e2⟩ := hO.2.1 a ha.1 ha.2
  obtain ⟨q1, q2, q3⟩ := hc.2.1 a ha.1 ha.2
  have ht := hQ.2.2.1.2.2.2.2.2.2.2.2.2.1 _ q1.1 q1.2
  exact c_Co_givenBy (Or.inr rfl) hQ.2.1 hQ.2.2.1 hQ.2.2.2.1 (by omega) e1 e2 ⟨q2, by omega⟩ q1 rfl K
theorem fl_loop {n : Nat} {a : Int} {v0 : zH} {QX : Nat → zH → Prop} (hn : n ≤ 72) (ha : 0 ≤ a ∧ a < wN W)
    (K : ∀ v' : zH, Fq v0 v' → QC v' w W c S → Q (zsm (fun k => sGiv W (sSt W (sSn S) (kR S) c k.toNat) a / 4) n) v') :
    ∀ (m i : Nat) {v : zH}, i + m = n → Fq v0 v → QC v w W c S → CO v 33 W (sSt W (sSn S) (kR S) c i) →
    zJ l G 1 (d + 6) h_W_flow k_W_flow 115 Q QX 38 [(2, 0), (3, 0), (3, 0), (0, (n : Int)), (0, a), (3, 0), (0, zsm (fun k => sGiv W (sSt W (sSn S) (kR S) c k.toNat) a / 4) i), (0, (i : Int))] [] v 115
  | 0, i, v, hi, hF, hQ, hA => by
    have e : i = n := by omega
    subst e
    refine zgo ck_W_flow 300 38 _ _ _ _ rfl (sg_W_flow_38 ?_)
    refine ⟨fun q1 => ?_, fun q2 => ⟨by first | decide | omega, by first | decide | omega, by first | decide | omega, by first | decide | omega, ?_⟩⟩
    try (any_goals (exfalso; first | omega | exact absurd trivial (by assumption)))
    exact K v hF hQ
  | m + 1, i, v, hi, hF, hQ, hA => by
    have hw := hQ.2.1
    have hc := Cok_S (n := i) hQ (by omega)
    have hb := sGiv_b hQ.2.2.1 hc ha.1 ha.2
    have hs := zsm_b (f := fun k => sGiv W (sSt W (sSn S) (kR S) c k.toNat) a / 4) (k := 24) i (fun j h1 h2 => by
      have := sGiv_b hQ.2.2.1 (Cok_S (n := j.toNat) hQ (by omega)) ha.1 ha.2
      omega)
    refine zgo ck_W_flow 300 38 _ _ _ _ rfl (sg_W_flow_38 ?_)
    try simp (disch := omega) only [zup_e, zup_ak, zup_j, Int.zero_add, hQ.1]
    refine ⟨fun q1 => ?_, fun q2 => ⟨by first | decide | omega, by first | decide | omega, by first | decide | omega, by first | decide | omega, ?_⟩⟩
    try (any_goals (exfalso; first | omega | exact absurd trivial (by assumption)))
    refine c_gb hQ hc hA ha ?_
    show _
    rw [ztd hb.1]
    try simp (disch := omega) only [zup_e, zup_ak, zup_j, Int.zero_add, hQ.1]
    refine ⟨⟨by first | decide | omega, by first | decide | omega⟩, by first | decide | omega, by first | decide | omega, by first | decide | omega, by first | decide | omega, by first | decide | omega, ?_⟩
    refine c_st hQ hc hA (fun v1 g1 g2 g3 g4 => ?_)
    refine ⟨⟨by first | decide | omega, by first | decide | omega⟩, ?_⟩
    exact fl_loop hn ha K m (i + 1) (by omega) (Fq_tr hF (Fr_Fq g1)) g2 g3
theorem c_be {a b : Int} (hQ : QC v w W c S) (ha : 0 ≤ a ∧ a < wN W) (hb : 0 ≤ b ∧ b < wN W) (K : Q (if adj (wC W) a b = true then 1 else 0) v) : zC l G 1 (d + 1) h_Wa_areBeside [(2, w), (0, a), (0, b)] v 115 Q := by
  have hw := hQ.2.1
  have hW := hQ.2.2.1
  have hl := hQ.2.2.2.1
  have e := (hl.2.2.2.2.2.2.2.2.2 a ha.1 ha.2).2.2.2
  have hN := hW.2.2.2.1
  have hN2 := hW.2.2.1
  have h3 := hl.2.2.1
  have hs := sd_adj hW.1 hW.2.1 (a := a) (x := b) (by omega) (by omega)
  obtain ⟨w0, w1, w3, w5, ⟨w7, w7'⟩, ⟨w8, w8'⟩, ⟨w9, w9'⟩, ⟨w10, w10'⟩, ⟨w11, w11'⟩, ⟨w12, w12'⟩⟩ := zwo_f hw
  have step : ∀ (i : Int) (QX : Nat → zH → Prop), 0 ≤ i → i < 4 → ¬ sd (wR W) (wC W) a i = b → zJ l G 1 (d + 1) h_Wa_areBeside k_Wa_areBeside 115 Q QX 10 [(2, w), (0, a), (0, b), (0, i + 1)] [] v 115 → (adj (wC W) a b = true → False) ∨ True → zJ l G 1 (d + 1) h_Wa_areBeside k_Wa_areBeside 115 Q QX 10 [(2, w), (0, a), (0, b), (0, i)] [] v 115 := by
    intro i QX h0 h1 hne Kn _
    refine zgo ck_Wa_areBeside 300 10 _ _ _ _ rfl (sg_Wa_areBeside_10 ?_)
    rw [e i h0 h1]
    refine ⟨fun q1 => ⟨by first | decide | omega, ?_⟩, fun q2 => ⟨by first | decide | omega, ⟨by first | decide | omega, by first | decide | omega⟩, ⟨by first | decide | omega, by first | decide | omega⟩, by first | decide | omega, ⟨by first | decide | omega, by first | decide | omega⟩, ⟨fun q3 => ⟨⟨by first | decide | omega, by first | decide | omega⟩, ?_⟩, fun q4 => ⟨by first | decide | omega, ?_⟩⟩⟩⟩
    try (any_goals (exfalso; first | omega | exact absurd trivial (by assumption)))
    exact Kn
  have hit : ∀ (i : Int) (QX : Nat → zH → Prop), 0 ≤ i → i < 4 → sd (wR W) (wC W) a i = b → Q 1 v → zJ l G 1 (d + 1) h_Wa_areBeside k_Wa_areBeside 115 Q QX 10 [(2, w), (0, a), (0, b), (0, i)] [] v 115 := by
    intro i QX h0 h1 hne Kn
    refine zgo ck_Wa_areBeside 300 10 _ _ _ _ rfl (sg_Wa_areBeside_10 ?_)
    rw [e i h0 h1]
    refine ⟨fun q1 => ⟨by first | decide | omega, ?_⟩, fun q2 => ⟨by first | decide | omega, ⟨by first | decide | omega, by first | decide | omega⟩, ⟨by first | decide | omega, by first | decide | omega⟩, by first | decide | omega, ⟨by first | decide | omega, by first | decide | omega⟩, ⟨fun q3 => ⟨⟨by first | decide | omega, by first | decide | omega⟩, ?_⟩, fun q4 => ⟨by first | decide | omega, ?_⟩⟩⟩⟩
    try (any_goals (exfalso; first | omega | exact absurd trivial (by assumption)))
    exact Kn
  refine zC_at ok_Wa_areBeside ck_Wa_areBeside rfl rfl (sg_Wa_areBeside_0 ?_)
  rw [h3]
  refine ⟨fun q1 => ⟨by first | decide | omega, ?_⟩, fun q2 => ⟨by first | decide | omega, ⟨fun q3 => ?_, fun q4 => ⟨by first | decide | omega, ?_⟩⟩⟩⟩
  try (any_goals (exfalso; first | omega | exact absurd trivial (by assumption)))
  have K1 : ∀ i : Int, 0 ≤ i → i < 4 → sd (wR W) (wC W) a i = b → Q 1 v := by
    intro i h0 h1 q
    have : adj (wC W) a b = true := by
      by_cases q2 : adj (wC W) a b = true
      · exact q2
      · rw [if_neg q2] at hs
        have : i = 0 ∨ i = 1 ∨ i = 2 ∨ i = 3 := by omega
        rcases this with rfl | rfl | rfl | rfl <;> rw [if_pos q] at hs <;> (split at hs <;> split at hs <;> split at hs <;> omega)
    rw [if_pos this] at K
    exact K
  by_cases t0 : sd (wR W) (wC W) a 0 = b
  · exact hit 0 _ (by omega) (by omega) t0 (K1 0 (by omega) (by omega) t0)
  refine step 0 _ (by omega) (by omega) t0 ?_ (Or.inr trivial)
  by_cases t1 : sd (wR W) (wC W) a 1 = b
  · exact hit 1 _ (by omega) (by omega) t1 (K1 1 (by omega) (by omega) t1)
  refine step 1 _ (by omega) (by omega) t1 ?_ (Or.inr trivial)
  by_cases t2 : sd (wR W) (wC W) a 2 = b
  · exact hit 2 _ (by omega) (by omega) t2 (K1 2 (by omega) (by omega) t2)
  refine step 2 _ (by omega) (by omega) t2 ?_ (Or.inr trivial)
  by_cases t3 : sd (wR W) (wC W) a 3 = b
  · exact hit 3 _ (by omega) (by omega) t3 (K1 3 (by omega) (by omega) t3)
  refine step 3 _ (by omega) (by omega) t3 ?_ (Or.inr trivial)
  refine zgo ck_Wa_areBeside 300 10 _ _ _ _ rfl (sg_Wa_areBeside_10 ?_)
  refine ⟨fun q1 => ⟨by first | decide | omega, ?_⟩, fun q2 => ⟨by first | decide | omega, ⟨by first | decide | omega, by first | decide | omega⟩, ⟨by first | decide | omega, by first | decide | omega⟩, by first | decide | omega, ⟨by first | decide | omega, by first | decide | omega⟩, ⟨fun q3 => ⟨⟨by first | decide | omega, by first | decide | omega⟩, ?_⟩, fun q4 => ⟨by first | decide | omega, ?_⟩⟩⟩⟩
  try (any_goals (exfalso; first | omega | exact absurd trivial (by assumption)))
  rw [if_neg t0, if_neg t1, if_neg t2, if_neg t3] at hs
  have : ¬ adj (wC W) a b = true := fun q => by
    rw [if_pos q] at hs
    omega
  rw [if_neg this] at K
  exact K
theorem c_W_flow {a b n : Int} (hQ : QC v w W c S) (K : ∀ v' : zH, Fq v v' → QC v' w W c S → Q (aFlow W S c a b n) v') : zC l G 1 (d + 7) h_W_flow [(2, 0), (0, a), (0, b), (0, n)] v 115 Q := by
  unfold aFlow at K
  have hw := hQ.2.1
  have w0 := (zwo_f hw).1
  have hb1 := fun h => ix_b (a := a) hQ.2.2.1 h
  have hb2 := fun h => ix_b (a := b) hQ.2.2.1 h
  refine zC_at ok_W_flow ck_W_flow rfl rfl (sg_W_flow_0 ?_)
  try simp (disch := omega) only [zup_e, zup_ak, zup_j, Int.zero_add, hQ.1]
  refine ⟨by first | decide | omega, by first | decide | omega, by first | decide | omega, ?_⟩
  try (any_goals (exfalso; first | omega | exact absurd trivial (by assumption)))
  refine c_ix hQ ?_
  try simp (disch := omega) only [zup_e, zup_ak, zup_j, Int.zero_add, hQ.1]
  refine ⟨by first | decide | omega, by first | decide | omega, by first | decide | omega, ?_⟩
  try (any_goals (exfalso; first | omega | exact absurd trivial (by assumption)))
  refine c_ix hQ ?_
  by_cases h1 : isc (wR W) (wC W) a = true
  rotate_left
  · rw [if_neg h1]
    try simp (disch := omega) only [zup_e, zup_ak, zup_j, Int.zero_add, hQ.1]
    refine ⟨fun q1 => ?_, fun q2 => ⟨fun q3 => ?_, fun q4 => ⟨by first | decide | omega, by first | decide | omega, by first | decide | omega, ?_⟩⟩⟩
    try (any_goals (exfalso; first | omega | exact absurd trivial (by assumption)))
    · rw [if_neg (fun q => h1 q.1)] at K
      exact K _ Fq_rf hQ
  rw [if_pos h1]
  have hb1 := hb1 h1
  by_cases h2 : isc (wR W) (wC W) b = true
  rotate_left
  · rw [if_neg h2]
    refine ⟨fun q1 => ?_, fun q2 => ⟨fun q3 => ?_, fun q4 => ⟨by first | decide | omega, by first | decide | omega, by first | decide | omega, ?_⟩⟩⟩
    try (any_goals (exfalso; first | omega | exact absurd trivial (by assumption)))
    rw [if_neg (fun q => h2 q.2.1)] at K
    exact K _ Fq_rf hQ
  rw [if_pos h2]
  have hb2 := hb2 h2
  try simp (disch := omega) only [zup_e, zup_ak, zup_j, Int.zero_add, hQ.1]
  refine ⟨fun q1 => ?_, fun q2 => ⟨fun q3 => ?_, fun q4 => ⟨by first | decide | omega, by first | decide | omega, by first | decide | omega, ?_⟩⟩⟩
  try (any_goals (exfalso; first | omega | exact absurd trivial (by assumption)))
  refine c_be hQ ⟨hb1.1, hb1.2.1⟩ ⟨hb2.1, hb2.2.1⟩ ?_
  by_cases h3 : adj (wC W) (ixn (wC W) a) (ixn (wC W) b) = true
  rotate_left
  · rw [if_neg h3]
    refine ⟨fun q1 => ?_, fun q2 => ?_⟩
    try (any_goals (exfalso; first | omega | exact absurd trivial (by assumption)))
    rw [if_neg (fun q => h3 q.2.2.1)] at K
    exact K _ Fq_rf hQ
  rw [if_pos h3]
  refine ⟨fun q1 => ?_, fun q2 => ?_⟩
  try (any_goals (exfalso; first | omega | exact absurd trivial (by assumption)))
  refine c_W_within ?_
  by_cases h4 : 1 ≤ n ∧ n ≤ 72
  rotate_left
  · rw [if_neg h4]
    refine ⟨fun q1 => ⟨by first | decide | omega, by first | decide | omega, by first | decide | omega, ?_⟩, fun q2 => ?_⟩
    try (any_goals (exfalso; first | omega | exact absurd trivial (by assumption)))
    rw [if_neg (fun q => h4 q.2.2.2)] at K
    exact K _ Fq_rf hQ
  rw [if_pos h4]
  refine ⟨fun q1 => ⟨by first | decide | omega, by first | decide | omega, by first | decide | omega, ?_⟩, fun q2 => ?_⟩
  try (any_goals (exfalso; first | omega | exact absurd trivial (by assumption)))
  rw [if_pos ⟨h1, h2, h3, h4⟩] at K
  obtain ⟨m, rfl⟩ : ∃ m : Nat, n = m := ⟨n.toNat, by omega⟩
  rw [Int.toNat_natCast] at K
  refine c_fol hQ (fun v1 g1 g2 g3 => ?_)
  try simp (disch := omega) only [zup_e, zup_ak, zup_j, Int.zero_add]
  exact fl_loop (by omega) ⟨hb1.1, hb1.2.1⟩ K m 0 (by omega) (fun b _ r1 _ _ => g1 b (by omega)) g2 g3
-- the coldest hour
theorem cl_loop {n : Nat} {k : Int} {v0 : zH} {QX : Nat → zH → Prop} (hn : n ≤ 72) (K : ∀ v' : zH, Fq v0 v' → QC v' w W c S → Q (if k = 0 then (sCld W S c n).1 else (sCld W S c n).2) v') :
    ∀ (m i : Nat) {v : zH}, i + m = n → Fq v0 v → QC v w W c S → CO v 33 W (sSt W (sSn S) (kR S) c i) →
    zJ l G 1 (d + 6) h_W_coldest k_W_coldest 115 Q QX 27 [(2, 0), (0, (n : Int)), (0, k), (0, (sCld W S c i).1), (0, (sCld W S c i).2), (0, (i : Int) + 1), (3, 0)] [] v 115
  | 0, i, v, hi, hF, hQ, hA => by
    have e : i = n := by omega
    subst e
    refine zgo ck_W_coldest 300 27 _ _ _ _ rfl (sg_W_coldest_27 ?_)
    refine ⟨fun q1 => ⟨fun q2 => ?_, fun q3 => ?_⟩, fun q4 => ⟨by first | decide | omega, by first | decide | omega, by first | decide | omega, by first | decide | omega, by first | decide | omega, ?_⟩⟩
    try (any_goals (exfalso; first | omega | exact absurd trivial (by assumption)))
    · rw [if_neg q2] at K
      exact K v hF hQ
    · rw [if_pos q3] at K
      exact K v hF hQ
  | m + 1, i, v, hi, hF, hQ, hA => by
    have hw := hQ.2.1
    have hc := Cok_S (n := i) hQ (by omega)
    have hc1 := Cok_S (n := i + 1) hQ (by omega)
    refine zgo ck_W_coldest 300 27 _ _ _ _ rfl (sg_W_coldest_27 ?_)
    try simp (disch := omega) only [zup_e, zup_ak, zup_j, Int.zero_add, hQ.1]
    refine ⟨fun q1 => ⟨fun q2 => ?_, fun q3 => ?_⟩, fun q4 => ⟨by first | decide | omega, by first | decide | omega, by first | decide | omega, by first | decide | omega, by first | decide | omega, ?_⟩⟩
    try (any_goals (exfalso; first | omega | exact absurd trivial (by assumption)))
    refine c_st hQ hc hA (fun v1 g1 g2 g3 g4 => ?_)
    try simp (disch := omega) only [zup_e, zup_ak, zup_j, Int.zero_add]
    refine ⟨by first | decide | omega, by first | decide | omega, by first | decide | omega, ?_⟩
    try (any_goals (exfalso; first | omega | exact absurd trivial (by assumption)))
    refine c_W_sumOf g2 (by decide) (f := cW (sSt W (sSn S) (kR S) c (i + 1))) (fun a h1 h2 => ⟨(g3.2.1 a h1 h2).1, ?_⟩) ?_
    · have q := hc1.2.1 a h1 h2
      have := hQ.2.2.1.2.2.2.2.2.2.2.2.2.1 _ q.1.1 q.1.2
      omega
    · have es : sCld W S c (i + 1) = if (sCld W S c i).1 = -1 ∨ sSum W (sSt W (sSn S) (kR S) c (i + 1)) < (sCld W S c i).2 then ((i : Int) + 1, sSum W (sSt W (sSn S) (kR S) c (i + 1))) else sCld W S c i := rfl
      have e0 : zsm (cW (sSt W (sSn S) (kR S) c (i + 1))) (wN W).toNat = sSum W (sSt W (sSn S) (kR S) c (i + 1)) := rfl
      rw [e0]
      have next : zJ l G 1 (d + 6) h_W_coldest k_W_coldest 115 Q QX 27 [(2, 0), (0, (n : Int)), (0, k), (0, (sCld W S c (i + 1)).1), (0, (sCld W S c (i + 1)).2), (0, ((i + 1 : Nat) : Int) + 1), (3, 0)] [] v1 115 := cl_loop hn K m (i + 1) (by omega) (Fq_tr hF (Fr_Fq g1)) g2 g3
      have ei : ((i + 1 : Nat) : Int) = (i : Int) + 1 := by omega
      rw [ei] at next
      refine ⟨fun q1 => ⟨⟨by first | decide | omega, by first | decide | omega⟩, ?_⟩, fun q2 => ⟨fun q3 => ⟨⟨by first | decide | omega, by first | decide | omega⟩, ?_⟩, fun q4 => ⟨⟨by first | decide | omega, by first | decide | omega⟩, ?_⟩⟩⟩
      try (any_goals (exfalso; first | omega | exact absurd trivial (by assumption)))
      · rw [es, if_pos (Or.inl q1)] at next
        exact next
      · rw [es, if_neg (by omega)] at next
        exact next
      · rw [es, if_pos (Or.inr q4)] at next
        exact next
theorem c_W_coldest {n k : Int} (hQ : QC v w W c S) (K : ∀ v' : zH, Fq v v' → QC v' w W c S → Q (aColdest W S c n k) v') : zC l G 1 (d + 7) h_W_coldest [(2, 0), (0, n), (0, k)] v 115 Q := by
  unfold aColdest at K
  have hw := hQ.2.1
  have w0 := (zwo_f hw).1
  have hn0 := W_n0 hQ.2.2.1
  refine zC_at ok_W_coldest ck_W_coldest rfl rfl (sg_W_coldest_0 ?_)
  try simp (disch := omega) only [zup_e, zup_ak, zup_j, Int.zero_add, hQ.1, hQ.2.2.2.1.2.2.1]
  refine ⟨by first | decide | omega, by first | decide | omega, by first | decide | omega, ⟨fun q1 => ?_, fun q2 => ?_⟩⟩
  try (any_goals (exfalso; first | omega | exact absurd trivial (by assumption)))
  · rw [if_neg (fun q => by omega)] at K
    exact K _ Fq_rf hQ
  refine c_W_within ?_
  by_cases h2 : 1 ≤ n ∧ n ≤ 72
  rotate_left
  · rw [if_neg h2]
    refine ⟨fun q1 => ?_, fun q2 => ?_⟩
    try (any_goals (exfalso; first | omega | exact absurd trivial (by assumption)))
    rw [if_neg (fun q => h2 q.2.1)] at K
    exact K _ Fq_rf hQ
  rw [if_pos h2]
  refine ⟨fun q1 => ?_, fun q2 => ?_⟩
  try (any_goals (exfalso; first | omega | exact absurd trivial (by assumption)))
  refine c_W_within ?_
  by_cases h3 : 0 ≤ k ∧ k ≤ 1
  rotate_left
  · rw [if_neg h3]
    refine ⟨fun q1 => ⟨by first | decide | omega, by first | decide | omega, by first | decide | omega, ?_⟩, fun q2 => ?_⟩
    try (any_goals (exfalso; first | omega | exact absurd trivial (by assumption)))
    rw [if_neg (fun q => h3 q.2.2)] at K
    exact K _ Fq_rf hQ
  rw [if_pos h3]
  refine ⟨fun q1 => ⟨by first | decide | omega, by first | decide | omega, by first | decide | omega, ?_⟩, fun q2 => ?_⟩
  try (any_goals (exfalso; first | omega | exact absurd trivial (by assumption)))
  rw [if_pos ⟨by omega, h2, h3⟩] at K
  obtain ⟨m, rfl⟩ : ∃ m : Nat, n = m := ⟨n.toNat, by omega⟩
  rw [Int.toNat_natCast] at K
  refine c_fol hQ (fun v1 g1 g2 g3 => ?_)
  try simp (disch := omega) only [zup_e, zup_ak, zup_j, Int.zero_add]
  exact cl_loop (by omega) K m 0 (by omega) (fun b _ r1 _ _ => g1 b (by omega)) g2 g3
-- spread
theorem sp_loop {f : Int → Int} {QX : Nat → zH → Prop} (hQ : QC v w W c S) (hf : ∀ a : Int, 0 ≤ a → a < wN W → v (33 + 1) a = f a ∧ 0 ≤ f a ∧ f a ≤ 99) (K : Q (sMaxF f (wN W).toNat - sMinF f (wN W).toNat) v) (hb : ∀ n : Nat, (n : Int) ≤ wN W → 1 ≤ n → 0 ≤ sMinF f n ∧ sMaxF f n ≤ 99 ∧ sMinF f n ≤ 99 ∧ 0 ≤ sMaxF f n) :
    ∀ (m i : Nat), (i : Int) + m = wN W → 1 ≤ i → zJ l G 1 (d + 1) h_W_spread k_W_spread 115 Q QX 24 [(2, 0), (3, 0), (0, sMinF f i), (0, sMaxF f i), (0, (i : Int))] [] v 115
  | 0, i, hi, h1 => by
    have hw := hQ.2.1
    have w0 := (zwo_f hw).1
    have e : i = (wN W).toNat := by omega
    have := hb i (by omega) h1
    refine zgo ck_W_spread 300 24 _ _ _ _ rfl (sg_W_spread_24 ?_)
    try simp (disch := omega) only [zup_e, zup_ak, zup_j, Int.zero_add, hQ.1, hQ.2.2.2.1.2.2.1]
    refine ⟨by first | decide | omega, by first | decide | omega, by first | decide | omega, ⟨fun q1 => ⟨⟨by first | decide | omega, by first | decide | omega⟩, ?_⟩, fun q2 => ⟨by first | decide | omega, by first | decide | omega, by first | decide | omega, ⟨by first | decide | omega, by first | decide | omega⟩, by first | decide | omega, by first | decide | omega, by first | decide | omega, ⟨by first | decide | omega, by first | decide | omega⟩, ⟨by first | decide | omega, by first | decide | omega⟩, ?_⟩⟩⟩
    try (any_goals (exfalso; first | omega | exact absurd trivial (by assumption)))
    rw [e]
    exact K
  | m + 1, i, hi, h1 => by
    have hw := hQ.2.1
    have w0 := (zwo_f hw).1
    have hN := hQ.2.2.1.2.2.2.1
    have z1 : zLN (33 + 1) = 24 := by decide
    have hfi := (hf i (by omega) (by omega)).1
    refine zgo ck_W_spread 300 24 _ _ _ _ rfl (sg_W_spread_24 ?_)
    try simp (disch := omega) only [zup_e, zup_ak, zup_j, Int.zero_add, hQ.1, hQ.2.2.2.1.2.2.1, hfi]
    refine ⟨by first | decide | omega, by first | decide | omega, by first | decide | omega, ⟨fun q1 => ⟨⟨by first | decide | omega, by first | decide | omega⟩, ?_⟩, fun q2 => ⟨by first | decide | omega, by first | decide | omega, by first | decide | omega, ⟨by first | decide | omega, by first | decide | omega⟩, by first | decide | omega, by first | decide | omega, by first | decide | omega, ⟨by first | decide | omega, by first | decide | omega⟩, ⟨by first | decide | omega, by first | decide | omega⟩, ?_⟩⟩⟩
    try (any_goals (exfalso; first | omega | exact absurd trivial (by assumption)))
    exact sp_loop hQ hf K hb m (i + 1) (by omega) (by omega)
theorem mm_b {f : Int → Int} {N : Int} (hf : ∀ a : Int, 0 ≤ a → a < N → 0 ≤ f a ∧ f a ≤ 99) (hN : 1 ≤ N) : ∀ n : Nat, (n : Int) ≤ N → 0 ≤ sMinF f n ∧ sMaxF f n ≤ 99 ∧ sMinF f n ≤ 99 ∧ 0 ≤ sMaxF f n
  | 0, _ => by
    have := hf 0 (by omega) (by omega)
    show 0 ≤ f 0 ∧ f 0 ≤ 99 ∧ f 0 ≤ 99 ∧ 0 ≤ f 0
    omega
  | n + 1, h => by
    have h1 := mm_b hf hN n (by omega)
    have h2 := hf n (by omega) (by omega)
    show 0 ≤ min (sMinF f n) (f n) ∧ max (sMaxF f n) (f n) ≤ 99 ∧ min (sMinF f n) (f n) ≤ 99 ∧ 0 ≤ max (sMaxF f n) (f n)
    omega
theorem min_1 {f : Int → Int} : sMinF f 1 = f 0 := by show min (f 0) (f 0) = _; omega
theorem max_1 {f : Int → Int} : sMaxF f 1 = f 0 := by show max (f 0) (f 0) = _; omega
theorem cw_b {n : Nat} (hQ : QC v w W c S) (hn : n ≤ 9999) (a : Int) (h1 : 0 ≤ a) (h2 : a < wN W) : 0 ≤ cW (sSt W (sSn S) (kR S) c n) a ∧ cW (sSt W (sSn S) (kR S) c n) a ≤ 99 := by
  have q := (Cok_S (n := n) hQ (by omega)).2.1 a h1 h2
  have := hQ.2.2.1.2.2.2.2.2.2.2.2.2.1 _ q.1.1 q.1.2
  omega
theorem c_W_spread {n : Int} (hQ : QC v w W c S) (K : ∀ v' : zH, Fq v v' → QC v' w W c S → Q (aSpread W S c n) v') : zC l G 1 (d + 7) h_W_spread [(2, 0), (0, n)] v 115 Q := by
  unfold aSpread at K
  have hw := hQ.2.1
  have w0 := (zwo_f hw).1
  have hn0 := W_n0 hQ.2.2.1
  have hN := hQ.2.2.1.2.2.2.1
  have z1 : zLN (33 + 1) = 24 := by decide
  refine zC_at ok_W_spread ck_W_spread rfl rfl (sg_W_spread_0 ?_)
  try simp (disch := omega) only [zup_e, zup_ak, zup_j, Int.zero_add, hQ.1, hQ.2.2.2.1.2.2.1]
  refine ⟨by first | decide | omega, by first | decide | omega, by first | decide | omega, ⟨fun q1 => ?_, fun q2 => ?_⟩⟩
  try (any_goals (exfalso; first | omega | exact absurd trivial (by assumption)))
  · rw [if_neg (fun q => by omega)] at K
    exact K _ Fq_rf hQ
  refine c_W_within ?_
  by_cases h2 : 0 ≤ n ∧ n ≤ 72
  rotate_left
  · rw [if_neg h2]
    refine ⟨fun q1 => ⟨by first | decide | omega, ?_⟩, fun q2 => ?_⟩
    try (any_goals (exfalso; first | omega | exact absurd trivial (by assumption)))
    rw [if_neg (fun q => h2 q.2)] at K
    exact K _ Fq_rf hQ
  rw [if_pos h2]
  refine ⟨fun q1 => ⟨by first | decide | omega, ?_⟩, fun q2 => ?_⟩
  try (any_goals (exfalso; first | omega | exact absurd trivial (by assumption)))
  rw [if_pos ⟨by omega, h2⟩] at K
  obtain ⟨m, rfl⟩ : ∃ m : Nat, n = m := ⟨n.toNat, by omega⟩
  rw [Int.toNat_natCast] at K
  refine c_W_goAhead (n := m) (by omega) hQ (fun v1 g1 g2 g3 g4 => ?_)
  have hf : ∀ a : Int, 0 ≤ a → a < wN W → v1 (33 + 1) a = cW (sSt W (sSn S) (kR S) c m) a ∧ 0 ≤ cW (sSt W (sSn S) (kR S) c m) a ∧ cW (sSt W (sSn S) (kR S) c m) a ≤ 99 := fun a h1 h2 => ⟨(g3.2.1 a h1 h2).1, cw_b hQ (by omega) a h1 h2⟩
  try simp (disch := omega) only [zup_e, zup_ak, zup_j, Int.zero_add]
  refine ⟨by first | decide | omega, by first | decide | omega, by first | decide | omega, ⟨by first | decide | omega, by first | decide | omega⟩, ?_⟩
  have h0 := (hf 0 (by omega) (by omega)).1
  rw [h0]
  have := sp_loop (d := d + 6) (l := l) (G := G) (QX := fun _ _ => False) g2 hf (K v1 g1 g2) (fun n h1 h2 => mm_b (fun a h1 h2 => (hf a h1 h2).2) (by omega) n h1) ((wN W).toNat - 1) 1 (by omega) (by omega)
  rw [min_1, max_1] at this
  exact this
-- who gives most
theorem bst_b {f : Int → Int} : ∀ n : Nat, 0 ≤ sBst f n ∧ (n = 0 → sBst f n = 0) ∧ (n ≠ 0 → sBst f n < n)
  | 0 => ⟨by show (0 : Int) ≤ 0; omega, fun _ => rfl, fun h => absurd rfl h⟩
  | n + 1 => by
    have h := bst_b (f := f) n
    have e : sBst f (n + 1) = if f (sBst f n) < f n then (n : Int) else sBst f n := rfl
    rw [e]
    by_cases q : n = 0
    · have := h.2.1 q
      split <;> omega
    · have := h.2.2 q
      split <;> omega
theorem gv_loop {f : Int → Int} {k : Int} {QX : Nat → zH → Prop} (hQ : QC v w W c S) (hf : ∀ a : Int, 0 ≤ a → a < wN W → v (33 + 7) a = f a) (hN1 : 1 ≤ wN W) (K : Q (if k = 0 then nmi (wC W) (sBst f (wN W).toNat) else f (sBst f (wN W).toNat)) v) :
    ∀ (m i : Nat), (i : Int) + m = wN W → zJ l G 1 (d + 2) h_W_giver k_W_giver 115 Q QX 29 [(2, 0), (3, 0), (0, k), (0, sBst f i), (0, (i : Int))] [] v 115
  | 0, i, hi => by
    have hw := hQ.2.1
    have w0 := (zwo_f hw).1
    have hN := hQ.2.2.1.2.2.2.1
    have z1 : zLN (33 + 7) = 24 := by decide
    have e : i = (wN W).toNat := by omega
    have hb := bst_b (f := f) i
    have hb2 := hb.2.2 (by omega)
    refine zgo ck_W_giver 300 29 _ _ _ _ rfl (sg_W_giver_29 ?_)
    try simp (disch := omega) only [zup_e, zup_ak, zup_j, Int.zero_add, hQ.1, hQ.2.2.2.1.2.2.1]
    refine ⟨by first | decide | omega, by first | decide | omega, by first | decide | omega, ⟨fun q1 => ⟨fun q2 => ⟨by first | decide | omega, by first | decide | omega, by first | decide | omega, ⟨by first | decide | omega, by first | decide | omega⟩, ?_⟩, fun q3 => ⟨by first | decide | omega, by first | decide | omega, by first | decide | omega, ?_⟩⟩, fun q4 => ⟨by first | decide | omega, by first | decide | omega, by first | decide | omega, ⟨by first | decide | omega, by first | decide | omega⟩, by first | decide | omega, by first | decide | omega, by first | decide | omega, ⟨by first | decide | omega, by first | decide | omega⟩, ⟨fun q5 => ⟨⟨by first | decide | omega, by first | decide | omega⟩, ?_⟩, fun q6 => ⟨⟨by first | decide | omega, by first | decide | omega⟩, ?_⟩⟩⟩⟩⟩
    try (any_goals (exfalso; first | omega | exact absurd trivial (by assumption)))
    · rw [if_neg q2, ← e] at K
      rw [hf _ (by omega) (by omega)]
      exact K
    · rw [if_pos q3, ← e] at K
      exact c_nm hQ (by omega) K
  | m + 1, i, hi => by
    have hw := hQ.2.1
    have w0 := (zwo_f hw).1
    have hN := hQ.2.2.1.2.2.2.1
    have z1 : zLN (33 + 7) = 24 := by decide
    have hb := bst_b (f := f) i
    have hb0 : sBst f i < wN W := by
      by_cases q : i = 0
      · have := hb.2.1 q
        omega
      · have := hb.2.2 q
        omega
    have e1 := hf i (by omega) (by omega)
    have e2 := hf (sBst f i) hb.1 hb0
    have es : sBst f (i + 1) = if f (sBst f i) < f i then (i : Int) else sBst f i := rfl
    have next : zJ l G 1 (d + 2) h_W_giver k_W_giver 115 Q QX 29 [(2, 0), (3, 0), (0, k), (0, sBst f (i + 1)), (0, ((i + 1 : Nat) : Int))] [] v 115 := gv_loop hQ hf hN1 K m (i + 1) (by omega)
    have ei : ((i + 1 : Nat) : Int) = (i : Int) + 1 := by omega
    rw [ei] at next
    refine zgo ck_W_giver 300 29 _ _ _ _ rfl (sg_W_giver_29 ?_)
    simp only [Int.zero_add, hQ.1, hQ.2.2.2.1.2.2.1, e1, e2]
    refine ⟨by first | decide | omega, by first | decide | omega, by first | decide | omega, ⟨fun q1 => ⟨fun q2 => ⟨by first | decide | omega, by first | decide | omega, by first | decide | omega, ⟨by first | decide | omega, by first | decide | omega⟩, ?_⟩, fun q3 => ⟨by first | decide | omega, by first | decide | omega, by first | decide | omega, ?_⟩⟩, fun q4 => ⟨by first | decide | omega, by first | decide | omega, by first | decide | omega, ⟨by first | decide | omega, by first | decide | omega⟩, by first | decide | omega, by first | decide | omega, by first | decide | omega, ⟨by first | decide | omega, by first | decide | omega⟩, ⟨fun q5 => ⟨⟨by first | decide | omega, by first | decide | omega⟩, ?_⟩, fun q6 => ⟨⟨by first | decide | omega, by first | decide | omega⟩, ?_⟩⟩⟩⟩⟩
    try (any_goals (exfalso; first | omega | exact absurd trivial (by assumption)))
    · rw [es, if_neg (by omega)] at next
      exact next
    · rw [es, if_pos q6] at next
      exact next
theorem bst_1 {f : Int → Int} : sBst f 1 = 0 := by
  show (if f 0 < f 0 then (0 : Int) else 0) = 0
  split <;> rfl
theorem c_W_giver {n k : Int} (hQ : QC v w W c S) (K : ∀ v' : zH, Fq v v' → QC v' w W c S → Q (aGiver W S c n k) v') : zC l G 1 (d + 7) h_W_giver [(2, 0), (0, n), (0, k)] v 115 Q := by
  unfold aGiver at K
  have hw := hQ.2.1
  have w0 := (zwo_f hw).1
  have hn0 := W_n0 hQ.2.2.1
  refine zC_at ok_W_giver ck_W_giver rfl rfl (sg_W_giver_0 ?_)
  try simp (disch := omega) only [zup_e, zup_ak, zup_j, Int.zero_add, hQ.1, hQ.2.2.2.1.2.2.1]
  refine ⟨by first | decide | omega, by first | decide | omega, by first | decide | omega, ⟨fun q1 => ?_, fun q2 => ?_⟩⟩
  try (any_goals (exfalso; first | omega | exact absurd trivial (by assumption)))
  · rw [if_neg (fun q => by omega)] at K
    exact K _ Fq_rf hQ
  refine c_W_within ?_
  by_cases h2 : 1 ≤ n ∧ n ≤ 72
  rotate_left
  · rw [if_neg h2]
    refine ⟨fun q1 => ?_, fun q2 => ?_⟩
    try (any_goals (exfalso; first | omega | exact absurd trivial (by assumption)))
    rw [if_neg (fun q => h2 q.2.1)] at K
    exact K _ Fq_rf hQ
  rw [if_pos h2]
  refine ⟨fun q1 => ?_, fun q2 => ?_⟩
  try (any_goals (exfalso; first | omega | exact absurd trivial (by assumption)))
  refine c_W_within ?_
  by_cases h3 : 0 ≤ k ∧ k ≤ 1
  rotate_left
  · rw [if_neg h3]
    refine ⟨fun q1 => ⟨by first | decide | omega, by first | decide | omega, by first | decide | omega, ?_⟩, fun q2 => ?_⟩
    try (any_goals (exfalso; first | omega | exact absurd trivial (by assumption)))
    rw [if_neg (fun q => h3 q.2.2)] at K
    exact K _ Fq_rf hQ
  rw [if_pos h3]
  refine ⟨fun q1 => ⟨by first | decide | omega, by first | decide | omega, by first | decide | omega, ?_⟩, fun q2 => ?_⟩
  try (any_goals (exfalso; first | omega | exact absurd trivial (by assumption)))
  rw [if_pos ⟨by omega, h2, h3⟩] at K
  obtain ⟨m, rfl⟩ : ∃ m : Nat, n = m := ⟨n.toNat, by omega⟩
  rw [Int.toNat_natCast] at K
  refine c_fol hQ (fun v1 g1 g2 g3 => ?_)
  try simp (disch := omega) only [zup_e, zup_ak, zup_j, Int.zero_add]
  refine ⟨by first | decide | omega, ?_⟩
  refine c_W_airAhead (by omega) g2 g2.2.2.2.2.1.1 g2.2.2.2.2.1.2 g3 (fun v2 f1 f2 f3 => ?_)
  try simp (disch := omega) only [zup_e, zup_ak, zup_j, Int.zero_add]
  have := gv_loop (d := d + 5) (l := l) (G := G) (k := k) (QX := fun _ _ => False) f2 f3 (by omega) (K v2 (Fq_tr (fun b _ r1 _ _ => g1 b (by omega)) f1) f2) ((wN W).toNat - 1) 1 (by omega)
  rw [bst_1] at this
  exact this
-- thaw
theorem thw_s {a x : Int} {n : Nat} : sThw W S c a x (n + 1) = if sThw W S c a x n = -1 ∧ x ≤ cW (sSt W (sSn S) (kR S) c n) a then (n : Int) else sThw W S c a x n := rfl
theorem thw_m {a x : Int} {n : Nat} (h : sThw W S c a x n ≠ -1) : ∀ m : Nat, sThw W S c a x (n + m) = sThw W S c a x n
  | 0 => rfl
  | m + 1 => by
    rw [← Nat.add_assoc, thw_s, if_neg (fun q => h (by rw [← thw_m h m]; exact q.1)), thw_m h m]
theorem tw_loop {a x : Int} {v0 : zH} {QX : Nat → zH → Prop} (ha : 0 ≤ a ∧ a < wN W)
    (K : ∀ v' : zH, Fq v0 v' → QC v' w W c S → Q (sThw W S c a x 73) v') :
    ∀ (m i : Nat) {v : zH}, i + m = 72 → Fq v0 v → QC v w W c S → CO v 33 W (sSt W (sSn S) (kR S) c i) → sThw W S c a x i = -1 →
    zJ l G 1 (d + 6) h_W_thaw k_W_thaw 115 Q QX 22 [(2, 0), (3, 0), (0, x), (0, a), (0, (i : Int))] [] v 115
  | 0, i, v, hi, hF, hQ, hA, hx => by
    have hN := hQ.2.2.1.2.2.2.1
    have z1 : zLN (33 + 1) = 24 := by decide
    have e : i = 72 := by omega
    subst e
    have e1 := (hA.2.1 a ha.1 ha.2).1
    have es := thw_s (W := W) (S := S) (c := c) (a := a) (x := x) (n := 72)
    have K := K v hF hQ
    rw [es] at K
    refine zgo ck_W_thaw 300 22 _ _ _ _ rfl (sg_W_thaw_22 ?_)
    try simp (disch := omega) only [zup_e, zup_ak, zup_j, Int.zero_add, e1]
    refine ⟨fun q1 => ⟨by first | decide | omega, by first | decide | omega, by first | decide | omega, ⟨by first | decide | omega, by first | decide | omega⟩, ⟨fun q2 => ?_, fun q3 => ?_⟩⟩, fun q4 => ⟨by first | decide | omega, by first | decide | omega, by first | decide | omega, ⟨by first | decide | omega, by first | decide | omega⟩, ⟨fun q5 => ⟨by first | decide | omega, by first | decide | omega, by first | decide | omega, by first | decide | omega, by first | decide | omega, ?_⟩, fun q6 => ?_⟩⟩⟩
    try (any_goals (exfalso; first | omega | exact absurd trivial (by assumption)))
    · rw [if_neg (by omega), hx] at K
      exact K
    · rw [if_pos ⟨hx, q3⟩] at K
      exact K
  | m + 1, i, v, hi, hF, hQ, hA, hx => by
    have hw := hQ.2.1
    have hN := hQ.2.2.1.2.2.2.1
    have z1 : zLN (33 + 1) = 24 := by decide
    have e1 := (hA.2.1 a ha.1 ha.2).1
    have es := thw_s (W := W) (S := S) (c := c) (a := a) (x := x) (n := i)
    refine zgo ck_W_thaw 300 22 _ _ _ _ rfl (sg_W_thaw_22 ?_)
    try simp (disch := omega) only [zup_e, zup_ak, zup_j, Int.zero_add, e1, hQ.1]
    refine ⟨fun q1 => ⟨by first | decide | omega, by first | decide | omega, by first | decide | omega, ⟨by first | decide | omega, by first | decide | omega⟩, ⟨fun q2 => ?_, fun q3 => ?_⟩⟩, fun q4 => ⟨by first | decide | omega, by first | decide | omega, by first | decide | omega, ⟨by first | decide | omega, by first | decide | omega⟩, ⟨fun q5 => ⟨by first | decide | omega, by first | decide | omega, by first | decide | omega, by first | decide | omega, by first | decide | omega, ?_⟩, fun q6 => ?_⟩⟩⟩
    try (any_goals (exfalso; first | omega | exact absurd trivial (by assumption)))
    · refine c_st hQ (Cok_S hQ (by omega)) hA (fun v1 g1 g2 g3 g4 => ?_)
      refine ⟨⟨by first | decide | omega, by first | decide | omega⟩, ?_⟩
      refine tw_loop ha K m (i + 1) (by omega) (Fq_tr hF (Fr_Fq g1)) g2 g3 ?_
      rw [es, if_neg (by omega)]
      exact hx
    · have K := K v hF hQ
      rw [if_pos ⟨hx, q6⟩] at es
      have := thw_m (W := W) (S := S) (c := c) (a := a) (x := x) (n := i + 1) (by omega) (72 - i)
      have e73 : i + 1 + (72 - i) = 73 := by omega
      rw [e73, es] at this
      rw [this] at K
      exact K
theorem c_W_thaw {a x : Int} (hQ : QC v w W c S) (K : ∀ v' : zH, Fq v v' → QC v' w W c S → Q (aThaw W S c a x) v') : zC l G 1 (d + 7) h_W_thaw [(2, 0), (0, a), (0, x)] v 115 Q := by
  unfold aThaw at K
  have hw := hQ.2.1
  have w0 := (zwo_f hw).1
  have hb := fun h => ix_b (a := a) hQ.2.2.1 h
  refine zC_at ok_W_thaw ck_W_thaw rfl rfl (sg_W_thaw_0 ?_)
  try simp (disch := omega) only [zup_e, zup_ak, zup_j, Int.zero_add, hQ.1]
  refine ⟨by first | decide | omega, by first | decide | omega, by first | decide | omega, ?_⟩
  try (any_goals (exfalso; first | omega | exact absurd trivial (by assumption)))
  refine c_ix hQ ?_
  by_cases h1 : isc (wR W) (wC W) a = true
  rotate_left
  · rw [if_neg h1]
    refine ⟨fun q1 => ?_, fun q2 => ?_⟩
    try (any_goals (exfalso; first | omega | exact absurd trivial (by assumption)))
    rw [if_neg (fun q => h1 q.1)] at K
    exact K _ Fq_rf hQ
  rw [if_pos h1]
  have hb := hb h1
  refine ⟨fun q1 => ?_, fun q2 => ?_⟩
  try (any_goals (exfalso; first | omega | exact absurd trivial (by assumption)))
  refine c_W_within ?_
  by_cases h2 : 0 ≤ x ∧ x ≤ 99
  rotate_left
  · rw [if_neg h2]
    refine ⟨fun q1 => ⟨by first | decide | omega, by first | decide | omega, by first | decide | omega, ?_⟩, fun q2 => ?_⟩
    try (any_goals (exfalso; first | omega | exact absurd trivial (by assumption)))
    rw [if_neg (fun q => h2 q.2)] at K
    exact K _ Fq_rf hQ
  rw [if_pos h2]
  refine ⟨fun q1 => ⟨by first | decide | omega, by first | decide | omega, by first | decide | omega, ?_⟩, fun q2 => ?_⟩
  try (any_goals (exfalso; first | omega | exact absurd trivial (by assumption)))
  rw [if_pos ⟨h1, h2⟩] at K
  refine c_fol hQ (fun v1 g1 g2 g3 => ?_)
  try simp (disch := omega) only [zup_e, zup_ak, zup_j, Int.zero_add]
  exact tw_loop ⟨hb.1, hb.2.1⟩ K 72 0 (by omega) (fun b _ r1 _ _ => g1 b (by omega)) g2 g3 rfl
end
