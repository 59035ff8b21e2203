/-! THE REFERENCE: an hour -/
def MW (v : zH) (W : zWl) : Prop := v 77 30 = wS W ∧ v 77 31 = wR W ∧ v 77 32 = wC W ∧ v 77 33 = wO W ∧ v 77 34 = wZ W ∧ (∀ j : Int, 0 ≤ j → j < 3 * wS W → v 93 j = wT W j) ∧ (∀ k : Int, 0 ≤ k → k < wO W → v 94 (5 * k) = wV W (5 * k) ∧ v 94 (5 * k + 1) = wV W (5 * k + 1) ∧ v 94 (5 * k + 4) = wV W (5 * k + 4)) ∧ (∀ j : Int, 0 ≤ j → j < 2 * wZ W → v 95 j = wL W j)
def MO (v : zH) (W : zWl) (c : zCo) : Prop := v 77 36 = cH c ∧ (∀ a : Int, isc (wR W) (wC W) a = true → v 97 a = cW c (ixn (wC W) a) ∧ v 96 a = cS c (ixn (wC W) a)) ∧ (∀ k : Int, 0 ≤ k → k < wO W → (k = v 77 39 → cF c k = cU c k) ∧ (k ≠ v 77 39 → v 94 (5 * k + 2) = cF c k ∧ v 94 (5 * k + 3) = cU c k))
def MQc (v : zH) (W : zWl) (c : zCo) (S : zSk) : Prop := Wok W ∧ MW v W ∧ Cok W c ∧ MO v W c ∧ Sok S ∧ MS v S
def Fp (v v' : zH) : Prop := (∀ b : Int, b ≠ 77 → b ≠ 86 → b ≠ 87 → b ≠ 97 → b ≠ 98 → b ≠ 99 → b ≠ 100 → v' b = v b) ∧ ∀ k : Int, k ≠ 36 → v' 77 k = v 77 k
theorem Fp_rf {v : zH} : Fp v v := ⟨fun _ _ _ _ _ _ _ _ => rfl, fun _ _ => rfl⟩
theorem Fp_tr {u v w : zH} (h : Fp u v) (g : Fp v w) : Fp u w := ⟨fun b a1 a2 a3 a4 a5 a6 a7 => (g.1 b a1 a2 a3 a4 a5 a6 a7).trans (h.1 b a1 a2 a3 a4 a5 a6 a7), fun k a => (g.2 k a).trans (h.2 k a)⟩
theorem MW_fr {v v' : zH} {W : zWl} (h77 : ∀ k : Int, 30 ≤ k → k ≤ 34 → v' 77 k = v 77 k) (h93 : v' 93 = v 93) (h94 : ∀ k : Int, 0 ≤ k → k < wO W → v' 94 (5 * k) = v 94 (5 * k) ∧ v' 94 (5 * k + 1) = v 94 (5 * k + 1) ∧ v' 94 (5 * k + 4) = v 94 (5 * k + 4)) (h95 : v' 95 = v 95) (k : MW v W) : MW v' W := by
  obtain ⟨k1, k2, k3, k4, k5, k6, k7, k8⟩ := k
  refine ⟨by rw [h77 30 (by omega) (by omega)]; exact k1, by rw [h77 31 (by omega) (by omega)]; exact k2, by rw [h77 32 (by omega) (by omega)]; exact k3, by rw [h77 33 (by omega) (by omega)]; exact k4, by rw [h77 34 (by omega) (by omega)]; exact k5, by rw [h93]; exact k6, fun o o1 o2 => ?_, by rw [h95]; exact k8⟩
  obtain ⟨g1, g2, g3⟩ := h94 o o1 o2
  rw [g1, g2, g3]
  exact k7 o o1 o2
theorem MS_fr {v v' : zH} {S : zSk} (h77 : v' 77 13 = v 77 13 ∧ v' 77 37 = v 77 37 ∧ v' 77 38 = v 77 38) (h79 : v' 79 = v 79) (h80 : v' 80 = v 80) (h82 : v' 82 = v 82) (h83 : v' 83 = v 83) (h84 : v' 84 = v 84) (h85 : v' 85 = v 85) (k : MS v S) : MS v' S := by
  obtain ⟨k1, k2, k3, k4⟩ := k
  refine ⟨by rw [h77.1]; exact k1, by rw [h77.2.1]; exact k2, by rw [h77.2.2]; exact k3, fun k P hP => ?_⟩
  obtain ⟨q1, q2⟩ := k4 k P hP
  exact ⟨by rw [h82]; exact q1, MLc_fr P 0 0 (fun j _ _ => by rw [h83, h84, h85]; exact ⟨rfl, rfl, rfl⟩) (fun j _ _ => by rw [h79, h80]; exact ⟨rfl, rfl⟩) q2⟩
theorem MS_p {v v' : zH} {S : zSk} (h : Fp v v') (k : MS v S) : MS v' S :=
  MS_fr ⟨h.2 13 (by omega), h.2 37 (by omega), h.2 38 (by omega)⟩ (h.1 79 (by omega) (by omega) (by omega) (by omega) (by omega) (by omega) (by omega)) (h.1 80 (by omega) (by omega) (by omega) (by omega) (by omega) (by omega) (by omega)) (h.1 82 (by omega) (by omega) (by omega) (by omega) (by omega) (by omega) (by omega)) (h.1 83 (by omega) (by omega) (by omega) (by omega) (by omega) (by omega) (by omega)) (h.1 84 (by omega) (by omega) (by omega) (by omega) (by omega) (by omega) (by omega)) (h.1 85 (by omega) (by omega) (by omega) (by omega) (by omega) (by omega) (by omega)) k
theorem MW_p {v v' : zH} {W : zWl} (h : Fp v v') (k : MW v W) : MW v' W :=
  MW_fr (fun j j1 j2 => h.2 j (by omega)) (h.1 93 (by omega) (by omega) (by omega) (by omega) (by omega) (by omega) (by omega)) (fun o _ _ => by rw [h.1 94 (by omega) (by omega) (by omega) (by omega) (by omega) (by omega) (by omega)]; exact ⟨rfl, rfl, rfl⟩) (h.1 95 (by omega) (by omega) (by omega) (by omega) (by omega) (by omega) (by omega)) k
/-- within the hour -/
def F9 (v v' : zH) : Prop := ∀ b : Int, b ≠ 86 → b ≠ 87 → b ≠ 97 → b ≠ 98 → b ≠ 99 → b ≠ 100 → v' b = v b
theorem F9_p {v v' : zH} (h : F9 v v') : Fp v v' := ⟨fun b _ a2 a3 a4 a5 a6 a7 => h b a2 a3 a4 a5 a6 a7, fun k _ => by rw [h 77 (by omega) (by omega) (by omega) (by omega) (by omega) (by omega)]⟩
section
variable {l : Launch} {G : zG} {d : Nat} {v : zH} {Q : Int → zH → Prop} {W : zWl} {c : zCo} {S : zSk}
theorem m_cell {a : Int} (hM : MW v W) (K : Q (if isc (wR W) (wC W) a = true then 1 else 0) v) : zC l G 1 (d + 1) h_M_isCell [(2, 77), (0, a)] v 115 Q := c_M_isCell hM.2.1 hM.2.2.1 K
theorem m_stone {a s k : Int} (hW : Wok W) (hM : MW v W) (ha : 0 ≤ a ∧ a < 36) (hs : v 96 a = s) (hs2 : 0 ≤ s ∧ s < wS W) (hk : 0 ≤ k ∧ k < 3) (K : Q (wT W (3 * s + k)) v) : zC l G 1 (d + 1) h_M_ofStone [(2, 77), (0, a), (0, k)] v 115 Q := by
  have h7 := hW.2.2.2.2.2.2.1
  refine c_M_ofStone ha hs (by omega) hk ?_
  rw [hM.2.2.2.2.2.1 _ (by omega) (by omega)]
  exact K
theorem bs_4 {a : Int} {QX : Nat → zH → Prop} (hW : Wok W) (hM : MW v W) (ha : isc (wR W) (wC W) a = true) (K : Q (sCnt W (ixn (wC W) a)) v) :
    ∀ (m i : Nat), i + m = 36 → zJ l G 1 (d + 3) h_M_beside k_M_beside 115 Q QX 4 [(2, 77), (0, a), (0, zsm (fun o => if isc (wR W) (wC W) o = true then (if adj (wC W) (ixn (wC W) a) (ixn (wC W) o) then 1 else 0) else 0) i), (0, (i : Int))] [] v 115
  | m, i, hi => by
    have hA := gE hW.1.2 hW.2.1 ha
    have hb := zsm_b (f := fun o => if isc (wR W) (wC W) o = true then (if adj (wC W) (ixn (wC W) a) (ixn (wC W) o) then (1 : Int) else 0) else 0) (k := 1) i (fun o _ _ => by split <;> (try split) <;> omega)
    match m, hi with
    | 0, hi =>
      have e : sCnt W (ixn (wC W) a) = zsm (fun o => if isc (wR W) (wC W) o = true then (if adj (wC W) (ixn (wC W) a) (ixn (wC W) o) then 1 else 0) else 0) i := by
        rw [show i = 36 by omega, zsm_nm (g := fun x => if adj (wC W) (ixn (wC W) a) x then 1 else 0) hW.1 hW.2.1, ← hW.2.2.1]
        rfl
      rw [e] at K
      refine zgo ck_M_beside 300 4 _ _ _ _ rfl (sg_M_beside_4 ?_)
      try simp (disch := omega) only [zup_e, zup_ak, zup_j, Int.zero_add, Int.reduceAdd, mz78, mz79, mz80, mz81, mz82, mz83, mz84, mz85, mz86, mz87, mz88, mz89, mz90, mz91, mz92, mz93, mz94, mz95, mz96, mz97, mz98, mz99, mz100, mz101, mz102, mz103, mz104, mz105, mz106, mz107, mz108, mz109, mz110, mz111, mz112, mz113]
      refine ⟨fun q1 => ?_, fun q2 => ⟨by first | decide | omega | contradiction | exact absurd trivial (by assumption), ?_⟩⟩
      try (any_goals (exfalso; first | omega | exact absurd trivial (by assumption)))
      exact K
    | m + 1, hi =>
      have es := zsm_s (g := fun o => if isc (wR W) (wC W) o = true then (if adj (wC W) (ixn (wC W) a) (ixn (wC W) o) then (1 : Int) else 0) else 0) (n := i)
      refine zgo ck_M_beside 300 4 _ _ _ _ rfl (sg_M_beside_4 ?_)
      try simp (disch := omega) only [zup_e, zup_ak, zup_j, Int.zero_add, Int.reduceAdd, mz78, mz79, mz80, mz81, mz82, mz83, mz84, mz85, mz86, mz87, mz88, mz89, mz90, mz91, mz92, mz93, mz94, mz95, mz96, mz97, mz98, mz99, mz100, mz101, mz102, mz103, mz104, mz105, mz106, mz107, mz108, mz109, mz110, mz111, mz112, mz113]
      refine ⟨fun q1 => ?_, fun q2 => ⟨by first | decide | omega | contradiction | exact absurd trivial (by assumption), ?_⟩⟩
      try (any_goals (exfalso; first | omega | exact absurd trivial (by assumption)))
      refine m_cell hM ?_
      by_cases hc : isc (wR W) (wC W) i = true
      · have hI := gE hW.1.2 hW.2.1 hc
        rw [if_pos hc] at es
        rw [if_pos hc]
        refine ⟨fun q1 => ⟨⟨by first | decide | omega | contradiction | exact absurd trivial (by assumption), by first | decide | omega | contradiction | exact absurd trivial (by assumption)⟩, ⟨by first | decide | omega | contradiction | exact absurd trivial (by assumption), by first | decide | omega | contradiction | exact absurd trivial (by assumption)⟩, ?_⟩, fun q2 => ?_⟩
        try (any_goals (exfalso; first | omega | exact absurd trivial (by assumption)))
        refine c_M_areBeside (by omega) (by omega) ?_
        rw [adj_nm hW.1.2 hW.2.1 ha hc]
        by_cases hadj : adj (wC W) (ixn (wC W) a) (ixn (wC W) i) = true
        · rw [if_pos hadj] at es
          rw [if_pos hadj]
          refine ⟨fun q1 => ⟨⟨by first | decide | omega | contradiction | exact absurd trivial (by assumption), by first | decide | omega | contradiction | exact absurd trivial (by assumption)⟩, ⟨by first | decide | omega | contradiction | exact absurd trivial (by assumption), by first | decide | omega | contradiction | exact absurd trivial (by assumption)⟩, ?_⟩, fun q2 => ⟨⟨by first | decide | omega | contradiction | exact absurd trivial (by assumption), by first | decide | omega | contradiction | exact absurd trivial (by assumption)⟩, ⟨by first | decide | omega | contradiction | exact absurd trivial (by assumption), by first | decide | omega | contradiction | exact absurd trivial (by assumption)⟩, ?_⟩⟩
          try (any_goals (exfalso; first | omega | exact absurd trivial (by assumption)))
          have g := bs_4 (QX := QX) hW hM ha K m (i + 1) (by omega)
          rw [es] at g
          exact g
        · rw [if_neg hadj] at es
          rw [if_neg hadj]
          refine ⟨fun q1 => ⟨⟨by first | decide | omega | contradiction | exact absurd trivial (by assumption), by first | decide | omega | contradiction | exact absurd trivial (by assumption)⟩, ⟨by first | decide | omega | contradiction | exact absurd trivial (by assumption), by first | decide | omega | contradiction | exact absurd trivial (by assumption)⟩, ?_⟩, fun q2 => ⟨⟨by first | decide | omega | contradiction | exact absurd trivial (by assumption), by first | decide | omega | contradiction | exact absurd trivial (by assumption)⟩, ⟨by first | decide | omega | contradiction | exact absurd trivial (by assumption), by first | decide | omega | contradiction | exact absurd trivial (by assumption)⟩, ?_⟩⟩
          try (any_goals (exfalso; first | omega | exact absurd trivial (by assumption)))
          have g := bs_4 (QX := QX) hW hM ha K m (i + 1) (by omega)
          rw [es] at g
          exact g
      · rw [if_neg hc] at es
        rw [if_neg hc]
        refine ⟨fun q1 => ⟨⟨by first | decide | omega | contradiction | exact absurd trivial (by assumption), by first | decide | omega | contradiction | exact absurd trivial (by assumption)⟩, ⟨by first | decide | omega | contradiction | exact absurd trivial (by assumption), by first | decide | omega | contradiction | exact absurd trivial (by assumption)⟩, ?_⟩, fun q2 => ?_⟩
        try (any_goals (exfalso; first | omega | exact absurd trivial (by assumption)))
        have g := bs_4 (QX := QX) hW hM ha K m (i + 1) (by omega)
        rw [es] at g
        exact g
theorem c_M_beside {a : Int} (hW : Wok W) (hM : MW v W) (ha : isc (wR W) (wC W) a = true) (K : Q (sCnt W (ixn (wC W) a)) v) : zC l G 1 (d + 3) h_M_beside [(2, 77), (0, a)] v 115 Q := by
  refine zC_at ok_M_beside ck_M_beside rfl rfl (sg_M_beside_0 ?_)
  try simp (disch := omega) only [zup_e, zup_ak, zup_j, Int.zero_add, Int.reduceAdd, mz78, mz79, mz80, mz81, mz82, mz83, mz84, mz85, mz86, mz87, mz88, mz89, mz90, mz91, mz92, mz93, mz94, mz95, mz96, mz97, mz98, mz99, mz100, mz101, mz102, mz103, mz104, mz105, mz106, mz107, mz108, mz109, mz110, mz111, mz112, mz113]
  exact bs_4 hW hM ha K 36 0 (by omega)
theorem ps_10 {v0 : zH} {rr : Int} {QX : Nat → zH → Prop} (hQ : MQc v0 W c S) (hr : rr = if sRain (kR S) (cH c) then 1 else 0)
    (K : ∀ v' : zH, F9 v0 v' → v' 97 = v0 97 → (∀ a : Int, isc (wR W) (wC W) a = true → v' 98 a = sGiv W c (ixn (wC W) a) / 4 ∧ v' 100 a = sGiv W c (ixn (wC W) a) - sGiv W c (ixn (wC W) a) / 4 * sCnt W (ixn (wC W) a) ∧ v' 99 a = stA W (sSn S) (kR S) c (ixn (wC W) a)) → zJ l G 1 (d + 6) h_M_pass k_M_pass 115 Q QX 79 [(2, 77), (0, rr), (0, 0), (3, 0), (3, 0)] [] v' 115) :
    ∀ (m i : Nat) {v : zH}, i + m = 36 → F9 v0 v → v 97 = v0 97 → (∀ a : Int, isc (wR W) (wC W) a = true → a < i → v 98 a = sGiv W c (ixn (wC W) a) / 4 ∧ v 100 a = sGiv W c (ixn (wC W) a) - sGiv W c (ixn (wC W) a) / 4 * sCnt W (ixn (wC W) a) ∧ v 99 a = stA W (sSn S) (kR S) c (ixn (wC W) a)) →
    zJ l G 1 (d + 6) h_M_pass k_M_pass 115 Q QX 10 [(2, 77), (0, rr), (0, (i : Int)), (3, 0), (3, 0)] [] v 115
  | m, i, v, hi, hF, h97, hp => by
    obtain ⟨hW, hM0, hc, hO0, hk, hS0⟩ := id hQ
    have hM := MW_p (F9_p hF) hM0
    match m, hi with
    | 0, hi =>
      refine zgo ck_M_pass 300 10 _ _ _ _ rfl (sg_M_pass_10 ?_)
      try simp (disch := omega) only [zup_e, zup_ak, zup_j, Int.zero_add, Int.reduceAdd, mz78, mz79, mz80, mz81, mz82, mz83, mz84, mz85, mz86, mz87, mz88, mz89, mz90, mz91, mz92, mz93, mz94, mz95, mz96, mz97, mz98, mz99, mz100, mz101, mz102, mz103, mz104, mz105, mz106, mz107, mz108, mz109, mz110, mz111, mz112, mz113]
      refine ⟨fun q1 => ?_, fun q2 => ⟨by first | decide | omega | contradiction | exact absurd trivial (by assumption), ?_⟩⟩
      try (any_goals (exfalso; first | omega | exact absurd trivial (by assumption)))
      exact K v hF h97 (fun a ha => hp a ha (by
        have := gE hW.1.2 hW.2.1 ha
        omega))
    | m + 1, hi =>
      refine zgo ck_M_pass 300 10 _ _ _ _ rfl (sg_M_pass_10 ?_)
      try simp (disch := omega) only [zup_e, zup_ak, zup_j, Int.zero_add, Int.reduceAdd, mz78, mz79, mz80, mz81, mz82, mz83, mz84, mz85, mz86, mz87, mz88, mz89, mz90, mz91, mz92, mz93, mz94, mz95, mz96, mz97, mz98, mz99, mz100, mz101, mz102, mz103, mz104, mz105, mz106, mz107, mz108, mz109, mz110, mz111, mz112, mz113]
      refine ⟨fun q1 => ?_, fun q2 => ⟨by first | decide | omega | contradiction | exact absurd trivial (by assumption), ?_⟩⟩
      try (any_goals (exfalso; first | omega | exact absurd trivial (by assumption)))
      refine m_cell hM ?_
      by_cases ha : isc (wR W) (wC W) i = true
      rotate_left
      · rw [if_neg ha]
        refine ⟨fun q1 => ⟨⟨by first | decide | omega | contradiction | exact absurd trivial (by assumption), by first | decide | omega | contradiction | exact absurd trivial (by assumption)⟩, ?_⟩, fun q2 => ⟨by first | decide | omega | contradiction | exact absurd trivial (by assumption), by first | decide | omega | contradiction | exact absurd trivial (by assumption), ⟨by first | decide | omega | contradiction | exact absurd trivial (by assumption), by first | decide | omega | contradiction | exact absurd trivial (by assumption)⟩, by first | decide | omega | contradiction | exact absurd trivial (by assumption), ?_⟩⟩
        try (any_goals (exfalso; first | omega | exact absurd trivial (by assumption)))
        exact ps_10 hQ hr K m (i + 1) (by omega) hF h97 (fun a h1 h2 => hp a h1 (by
          by_cases e : a = i
          · rw [e] at h1; exact absurd h1 ha
          · omega))
      obtain ⟨x0, x1, x2, x3, x4, x5, x6, x7, x8⟩ := gE hW.1.2 hW.2.1 ha
      have hN := hW.2.2.1
      rw [if_pos ha]
      have e97 : v 97 i = cW c (ixn (wC W) i) := by rw [h97]; exact (hO0.2.1 _ ha).1
      have e96 : v 96 i = cS c (ixn (wC W) i) := by rw [hF 96 (by omega) (by omega) (by omega) (by omega) (by omega) (by omega)]; exact (hO0.2.1 _ ha).2
      obtain ⟨⟨q1s, q2s⟩, q3s, q4s⟩ := hc.2.1 _ x0 (by omega : ixn (wC W) i < wN W)
      have hWt := hW.2.2.2.2.2.2.2.2.2.1 _ q1s q2s
      have hgb := sGiv_b hW hc x0 (by omega)
      have hcb := sCnt_b hW x0 (by omega : ixn (wC W) i < wN W)
      have hsb := sSun_b (rn := kR S) (sn := sSn S) snOk_S hW hc x0 (by omega : ixn (wC W) i < wN W)
      have hm0 : 0 ≤ cW c (ixn (wC W) i) * wT W (3 * cS c (ixn (wC W) i) + 2) := Int.mul_nonneg q3s hWt.2.2.1
      have hm1 : cW c (ixn (wC W) i) * wT W (3 * cS c (ixn (wC W) i) + 2) ≤ 99 * 10 := Int.mul_le_mul (by omega) hWt.2.2.2 hWt.2.2.1 (by omega)
      have htd : (cW c (ixn (wC W) i) * wT W (3 * cS c (ixn (wC W) i) + 2)).tdiv 10 = sGiv W c (ixn (wC W) i) := by rw [ztd hm0]; rfl
      have hq4 : (sGiv W c (ixn (wC W) i)).tdiv 4 = sGiv W c (ixn (wC W) i) / 4 := ztd hgb.1
      have hsc0 : 0 ≤ sGiv W c (ixn (wC W) i) / 4 * sCnt W (ixn (wC W) i) := Int.mul_nonneg (by omega) hcb.1
      have hsc1 : sGiv W c (ixn (wC W) i) / 4 * sCnt W (ixn (wC W) i) ≤ sGiv W c (ixn (wC W) i) / 4 * 4 := Int.mul_le_mul_of_nonneg_left hcb.2 (by omega)
      have e36 : v 77 36 = cH c := by rw [hF 77 (by omega) (by omega) (by omega) (by omega) (by omega) (by omega)]; exact hO0.1
      have hst : stA W (sSn S) (kR S) c (ixn (wC W) i) = cW c (ixn (wC W) i) - sGiv W c (ixn (wC W) i) + sSun W (sSn S) (kR S) c (ixn (wC W) i) := rfl
      -- what comes behind
      have nx : ∀ w : zH, (∀ b : Int, b ≠ 86 → b ≠ 87 → w b = (zupd (zupd v 98 i (sGiv W c (ixn (wC W) i) / 4)) 100 i (sGiv W c (ixn (wC W) i) - sGiv W c (ixn (wC W) i) / 4 * sCnt W (ixn (wC W) i))) b) → zJ l G 1 (d + 6) h_M_pass k_M_pass 115 Q QX 10 [(2, 77), (0, rr), (0, (i : Int) + 1), (3, 0), (3, 0)] [] (zupd w 99 i (stA W (sSn S) (kR S) c (ixn (wC W) i))) 115 := by
        intro w hw
        refine ps_10 hQ hr K m (i + 1) (by omega) (fun b b1 b2 b3 b4 b5 b6 => ?_) ?_ (fun a h1 h2 => ?_)
        · rw [zup_a b5, hw b b1 b2, zup_a b6, zup_a b4]
          exact hF b b1 b2 b3 b4 b5 b6
        · rw [zup_a (by omega), hw 97 (by omega) (by omega), zup_a (by omega), zup_a (by omega)]
          exact h97
        · by_cases e : a = i
          · subst e
            rw [zup_a (by omega), zup_a (by omega), zup_s, hw 98 (by omega) (by omega), hw 100 (by omega) (by omega), zup_s, zup_a (by omega), zup_s]
            exact ⟨rfl, rfl, rfl⟩
          · rw [zup_a (by omega), zup_a (by omega), zup_j e, hw 98 (by omega) (by omega), hw 100 (by omega) (by omega), hw 99 (by omega) (by omega)]
            simp (disch := omega) only [zup_j, zup_ak]
            exact hp a h1 (by omega)
      refine ⟨fun q1 => ⟨⟨by first | decide | omega | contradiction | exact absurd trivial (by assumption), by first | decide | omega | contradiction | exact absurd trivial (by assumption)⟩, ?_⟩, fun q2 => ⟨by first | decide | omega | contradiction | exact absurd trivial (by assumption), by first | decide | omega | contradiction | exact absurd trivial (by assumption), ⟨by first | decide | omega | contradiction | exact absurd trivial (by assumption), by first | decide | omega | contradiction | exact absurd trivial (by assumption)⟩, by first | decide | omega | contradiction | exact absurd trivial (by assumption), ?_⟩⟩
      try (any_goals (exfalso; first | omega | exact absurd trivial (by assumption)))
      refine m_stone hW hM (by omega) e96 ⟨q1s, q2s⟩ (by omega) ?_
      show _
      simp (disch := omega) only [zup_j, zup_ak, zup_e, e97, htd, hq4, e36]
      refine ⟨⟨by first | decide | omega | contradiction | exact absurd trivial (by assumption), by first | decide | omega | contradiction | exact absurd trivial (by assumption)⟩, by first | decide | omega | contradiction | exact absurd trivial (by assumption), by first | decide | omega | contradiction | exact absurd trivial (by assumption), ⟨by first | decide | omega | contradiction | exact absurd trivial (by assumption), by first | decide | omega | contradiction | exact absurd trivial (by assumption)⟩, by first | decide | omega | contradiction | exact absurd trivial (by assumption), by first | decide | omega | contradiction | exact absurd trivial (by assumption), by first | decide | omega | contradiction | exact absurd trivial (by assumption), ⟨by first | decide | omega | contradiction | exact absurd trivial (by assumption), by first | decide | omega | contradiction | exact absurd trivial (by assumption)⟩, by first | decide | omega | contradiction | exact absurd trivial (by assumption), ?_⟩
      try (any_goals (exfalso; first | omega | exact absurd trivial (by assumption)))
      have hM1 : MW (zupd v 98 i (sGiv W c (ixn (wC W) i) / 4)) W := MW_p (F9_p (fun b b1 b2 b3 b4 b5 b6 => zup_a b4)) hM
      refine c_M_beside hW hM1 ha ?_
      show _
      simp (disch := omega) only [zup_j, zup_ak, zup_e, e97, e36]
      have hF3 : F9 v (zupd (zupd v 98 i (sGiv W c (ixn (wC W) i) / 4)) 100 i (sGiv W c (ixn (wC W) i) - sGiv W c (ixn (wC W) i) / 4 * sCnt W (ixn (wC W) i))) := fun b b1 b2 b3 b4 b5 b6 => (zup_a b6).trans (zup_a b4)
      by_cases hrain : sRain (kR S) (cH c) = true
      · rw [if_pos hrain] at hr
        have hs0 : sSun W (sSn S) (kR S) c (ixn (wC W) i) = 0 := by unfold sSun; rw [if_pos hrain]
        refine ⟨⟨by first | decide | omega | contradiction | exact absurd trivial (by assumption), by first | decide | omega | contradiction | exact absurd trivial (by assumption)⟩, ⟨by first | decide | omega | contradiction | exact absurd trivial (by assumption), by first | decide | omega | contradiction | exact absurd trivial (by assumption)⟩, by first | decide | omega | contradiction | exact absurd trivial (by assumption), ⟨by first | decide | omega | contradiction | exact absurd trivial (by assumption), by first | decide | omega | contradiction | exact absurd trivial (by assumption)⟩, by first | decide | omega | contradiction | exact absurd trivial (by assumption), by first | decide | omega | contradiction | exact absurd trivial (by assumption), by first | decide | omega | contradiction | exact absurd trivial (by assumption), ⟨by first | decide | omega | contradiction | exact absurd trivial (by assumption), by first | decide | omega | contradiction | exact absurd trivial (by assumption)⟩, ⟨by first | decide | omega | contradiction | exact absurd trivial (by assumption), by first | decide | omega | contradiction | exact absurd trivial (by assumption)⟩, ⟨fun q1 => ⟨by first | decide | omega | contradiction | exact absurd trivial (by assumption), by first | decide | omega | contradiction | exact absurd trivial (by assumption), ?_⟩, fun q2 => ⟨⟨by first | decide | omega | contradiction | exact absurd trivial (by assumption), by first | decide | omega | contradiction | exact absurd trivial (by assumption)⟩, by first | decide | omega | contradiction | exact absurd trivial (by assumption), ⟨by first | decide | omega | contradiction | exact absurd trivial (by assumption), by first | decide | omega | contradiction | exact absurd trivial (by assumption)⟩, ⟨by first | decide | omega | contradiction | exact absurd trivial (by assumption), by first | decide | omega | contradiction | exact absurd trivial (by assumption)⟩, ?_⟩⟩⟩
        try (any_goals (exfalso; first | omega | exact absurd trivial (by assumption)))
        have g := nx _ (fun _ _ _ => rfl)
        rw [hst, hs0] at g
        exact g
      · rw [if_neg hrain] at hr
        have hs0 : sSun W (sSn S) (kR S) c (ixn (wC W) i) = sSn S (cH c) (i / 10) (i % 10) (cS c (ixn (wC W) i)) * wT W (3 * cS c (ixn (wC W) i)) := by
          unfold sSun
          rw [if_neg hrain, x2, x3]
        refine ⟨⟨by first | decide | omega | contradiction | exact absurd trivial (by assumption), by first | decide | omega | contradiction | exact absurd trivial (by assumption)⟩, ⟨by first | decide | omega | contradiction | exact absurd trivial (by assumption), by first | decide | omega | contradiction | exact absurd trivial (by assumption)⟩, by first | decide | omega | contradiction | exact absurd trivial (by assumption), ⟨by first | decide | omega | contradiction | exact absurd trivial (by assumption), by first | decide | omega | contradiction | exact absurd trivial (by assumption)⟩, by first | decide | omega | contradiction | exact absurd trivial (by assumption), by first | decide | omega | contradiction | exact absurd trivial (by assumption), by first | decide | omega | contradiction | exact absurd trivial (by assumption), ⟨by first | decide | omega | contradiction | exact absurd trivial (by assumption), by first | decide | omega | contradiction | exact absurd trivial (by assumption)⟩, ⟨by first | decide | omega | contradiction | exact absurd trivial (by assumption), by first | decide | omega | contradiction | exact absurd trivial (by assumption)⟩, ⟨fun q1 => ⟨by first | decide | omega | contradiction | exact absurd trivial (by assumption), by first | decide | omega | contradiction | exact absurd trivial (by assumption), ?_⟩, fun q2 => ⟨⟨by first | decide | omega | contradiction | exact absurd trivial (by assumption), by first | decide | omega | contradiction | exact absurd trivial (by assumption)⟩, by first | decide | omega | contradiction | exact absurd trivial (by assumption), ⟨by first | decide | omega | contradiction | exact absurd trivial (by assumption), by first | decide | omega | contradiction | exact absurd trivial (by assumption)⟩, ⟨by first | decide | omega | contradiction | exact absurd trivial (by assumption), by first | decide | omega | contradiction | exact absurd trivial (by assumption)⟩, ?_⟩⟩⟩
        try (any_goals (exfalso; first | omega | exact absurd trivial (by assumption)))
        have h7 := hW.2.2.2.2.2.2.1
        have hh := hc.1
        refine c_M_sunOn (s := cS c (ixn (wC W) i)) hk (MS_p (F9_p (fun b b1 b2 b3 b4 b5 b6 => (hF3 b b1 b2 b3 b4 b5 b6).trans (hF b b1 b2 b3 b4 b5 b6))) hS0) (by omega) (by omega) (by rw [zup_a (by omega), zup_a (by omega)]; exact e96) (by omega) (fun v4 f4 => ?_)
        refine ⟨by first | decide | omega | contradiction | exact absurd trivial (by assumption), ?_⟩
        have hM4 : MW v4 W := MW_p (F9_p (fun b b1 b2 b3 b4 b5 b6 => (f4 b b1 b2).trans (hF3 b b1 b2 b3 b4 b5 b6))) hM
        refine m_stone hW hM4 (by omega) (by rw [f4 96 (by omega) (by omega), zup_a (by omega), zup_a (by omega)]; exact e96) ⟨q1s, q2s⟩ (by omega) ?_
        rw [Int.add_zero, ← hs0]
        refine ⟨⟨by first | decide | omega | contradiction | exact absurd trivial (by assumption), by first | decide | omega | contradiction | exact absurd trivial (by assumption)⟩, ⟨by first | decide | omega | contradiction | exact absurd trivial (by assumption), by first | decide | omega | contradiction | exact absurd trivial (by assumption)⟩, by first | decide | omega | contradiction | exact absurd trivial (by assumption), ⟨by first | decide | omega | contradiction | exact absurd trivial (by assumption), by first | decide | omega | contradiction | exact absurd trivial (by assumption)⟩, ⟨by first | decide | omega | contradiction | exact absurd trivial (by assumption), by first | decide | omega | contradiction | exact absurd trivial (by assumption)⟩, ?_⟩
        exact nx v4 f4
theorem ps_88 {rr : Int} {i : Nat} {y0 : Int} {v1 : zH} {QX : Nat → zH → Prop} (hW : Wok W) (hc : Cok W c) (hM : MW v1 W) (ha : isc (wR W) (wC W) i = true) (hy : 0 ≤ y0 ∧ y0 ≤ 200) (h98 : ∀ a : Int, isc (wR W) (wC W) a = true → v1 98 a = sGiv W c (ixn (wC W) a) / 4)
    (K : ∀ v' : zH, (∀ b : Int, b ≠ 99 → v' b = v1 b) → (∀ a : Int, a ≠ i → v' 99 a = v1 99 a) → v' 99 i = y0 + sNb W (fun o => sGiv W c o / 4) (ixn (wC W) i) → zJ l G 1 (d + 6) h_M_pass k_M_pass 115 Q QX 116 [(2, 77), (0, rr), (0, (i : Int)), (0, 0), (3, 0)] [] v' 115) :
    ∀ (m j : Nat) {v : zH}, j + m = 36 → (∀ b : Int, b ≠ 99 → v b = v1 b) → (∀ a : Int, a ≠ i → v 99 a = v1 99 a) → v 99 i = y0 + zsm (fun o => if isc (wR W) (wC W) o = true then (if adj (wC W) (ixn (wC W) i) (ixn (wC W) o) then sGiv W c (ixn (wC W) o) / 4 else 0) else 0) j →
    zJ l G 1 (d + 6) h_M_pass k_M_pass 115 Q QX 88 [(2, 77), (0, rr), (0, (i : Int)), (0, (j : Int)), (3, 0)] [] v 115
  | m, j, v, hj, hF, hF2, hv => by
    have hA := gE hW.1.2 hW.2.1 ha
    have hN := hW.2.2.1
    have hMv : MW v W := MW_p (F9_p (fun b b1 b2 b3 b4 b5 b6 => hF b b5)) hM
    have hgb : ∀ o : Int, isc (wR W) (wC W) o = true → 0 ≤ sGiv W c (ixn (wC W) o) / 4 ∧ sGiv W c (ixn (wC W) o) / 4 ≤ 24 := fun o ho => by
      have hO := gE hW.1.2 hW.2.1 ho
      have := sGiv_b hW hc hO.1 (by omega)
      omega
    have hb := zsm_b (f := fun o => if isc (wR W) (wC W) o = true then (if adj (wC W) (ixn (wC W) i) (ixn (wC W) o) then sGiv W c (ixn (wC W) o) / 4 else 0) else 0) (k := 24) j (fun o _ _ => by
      split
      · rename_i q
        have := hgb o q
        split <;> omega
      · omega)
    match m, hj with
    | 0, hj =>
      have e : sNb W (fun o => sGiv W c o / 4) (ixn (wC W) i) = zsm (fun o => if isc (wR W) (wC W) o = true then (if adj (wC W) (ixn (wC W) i) (ixn (wC W) o) then sGiv W c (ixn (wC W) o) / 4 else 0) else 0) j := by
        rw [show j = 36 by omega, zsm_nm (g := fun x => if adj (wC W) (ixn (wC W) i) x then sGiv W c x / 4 else 0) hW.1 hW.2.1, ← hW.2.2.1]
        rfl
      rw [← e] at hv
      refine zgo ck_M_pass 300 88 _ _ _ _ rfl (sg_M_pass_88 ?_)
      try simp (disch := omega) only [zup_e, zup_ak, zup_j, Int.zero_add, Int.reduceAdd, mz78, mz79, mz80, mz81, mz82, mz83, mz84, mz85, mz86, mz87, mz88, mz89, mz90, mz91, mz92, mz93, mz94, mz95, mz96, mz97, mz98, mz99, mz100, mz101, mz102, mz103, mz104, mz105, mz106, mz107, mz108, mz109, mz110, mz111, mz112, mz113]
      refine ⟨fun q1 => ?_, fun q2 => ⟨by first | decide | omega | contradiction | exact absurd trivial (by assumption), by first | decide | omega | contradiction | exact absurd trivial (by assumption), ⟨by first | decide | omega | contradiction | exact absurd trivial (by assumption), by first | decide | omega | contradiction | exact absurd trivial (by assumption)⟩, by first | decide | omega | contradiction | exact absurd trivial (by assumption), ?_⟩⟩
      try (any_goals (exfalso; first | omega | exact absurd trivial (by assumption)))
      exact K v hF hF2 hv
    | m + 1, hj =>
      have es := zsm_s (g := fun o => if isc (wR W) (wC W) o = true then (if adj (wC W) (ixn (wC W) i) (ixn (wC W) o) then sGiv W c (ixn (wC W) o) / 4 else 0) else 0) (n := j)
      have go : ∀ y : Int, y = y0 + zsm (fun o => if isc (wR W) (wC W) o = true then (if adj (wC W) (ixn (wC W) i) (ixn (wC W) o) then sGiv W c (ixn (wC W) o) / 4 else 0) else 0) (j + 1) → zJ l G 1 (d + 6) h_M_pass k_M_pass 115 Q QX 88 [(2, 77), (0, rr), (0, (i : Int)), (0, (j : Int) + 1), (3, 0)] [] (zupd v 99 i y) 115 := by
        intro y e
        exact ps_88 hW hc hM ha hy h98 K m (j + 1) (by omega) (fun b q => (zup_a q).trans (hF b q)) (fun a q => (zup_j q).trans (hF2 a q)) (zup_s.trans e)
      refine zgo ck_M_pass 300 88 _ _ _ _ rfl (sg_M_pass_88 ?_)
      try simp (disch := omega) only [zup_e, zup_ak, zup_j, Int.zero_add, Int.reduceAdd, mz78, mz79, mz80, mz81, mz82, mz83, mz84, mz85, mz86, mz87, mz88, mz89, mz90, mz91, mz92, mz93, mz94, mz95, mz96, mz97, mz98, mz99, mz100, mz101, mz102, mz103, mz104, mz105, mz106, mz107, mz108, mz109, mz110, mz111, mz112, mz113]
      refine ⟨fun q1 => ?_, fun q2 => ⟨by first | decide | omega | contradiction | exact absurd trivial (by assumption), by first | decide | omega | contradiction | exact absurd trivial (by assumption), ⟨by first | decide | omega | contradiction | exact absurd trivial (by assumption), by first | decide | omega | contradiction | exact absurd trivial (by assumption)⟩, by first | decide | omega | contradiction | exact absurd trivial (by assumption), ?_⟩⟩
      try (any_goals (exfalso; first | omega | exact absurd trivial (by assumption)))
      refine m_cell hMv ?_
      by_cases ho : isc (wR W) (wC W) j = true
      · have hO := gE hW.1.2 hW.2.1 ho
        have e98 : v 98 j = sGiv W c (ixn (wC W) j) / 4 := by rw [hF 98 (by omega)]; exact h98 _ ho
        have g4 := hgb _ ho
        rw [if_pos ho] at es
        rw [if_pos ho]
        refine ⟨fun q1 => ⟨⟨by first | decide | omega | contradiction | exact absurd trivial (by assumption), by first | decide | omega | contradiction | exact absurd trivial (by assumption)⟩, by first | decide | omega | contradiction | exact absurd trivial (by assumption), ⟨by first | decide | omega | contradiction | exact absurd trivial (by assumption), by first | decide | omega | contradiction | exact absurd trivial (by assumption)⟩, ⟨by first | decide | omega | contradiction | exact absurd trivial (by assumption), by first | decide | omega | contradiction | exact absurd trivial (by assumption)⟩, ?_⟩, fun q2 => ?_⟩
        try (any_goals (exfalso; first | omega | exact absurd trivial (by assumption)))
        refine c_M_areBeside (by omega) (by omega) ?_
        rw [adj_nm hW.1.2 hW.2.1 ha ho]
        by_cases hadj : adj (wC W) (ixn (wC W) i) (ixn (wC W) j) = true
        · rw [if_pos hadj] at es
          rw [if_pos hadj]
          show _
          simp only [e98]
          refine ⟨fun q1 => ⟨⟨by first | decide | omega | contradiction | exact absurd trivial (by assumption), by first | decide | omega | contradiction | exact absurd trivial (by assumption)⟩, by first | decide | omega | contradiction | exact absurd trivial (by assumption), ⟨by first | decide | omega | contradiction | exact absurd trivial (by assumption), by first | decide | omega | contradiction | exact absurd trivial (by assumption)⟩, ⟨by first | decide | omega | contradiction | exact absurd trivial (by assumption), by first | decide | omega | contradiction | exact absurd trivial (by assumption)⟩, ?_⟩, fun q2 => ⟨by first | decide | omega | contradiction | exact absurd trivial (by assumption), by first | decide | omega | contradiction | exact absurd trivial (by assumption), ⟨by first | decide | omega | contradiction | exact absurd trivial (by assumption), by first | decide | omega | contradiction | exact absurd trivial (by assumption)⟩, ⟨by first | decide | omega | contradiction | exact absurd trivial (by assumption), by first | decide | omega | contradiction | exact absurd trivial (by assumption)⟩, by first | decide | omega | contradiction | exact absurd trivial (by assumption), ⟨by first | decide | omega | contradiction | exact absurd trivial (by assumption), by first | decide | omega | contradiction | exact absurd trivial (by assumption)⟩, ⟨by first | decide | omega | contradiction | exact absurd trivial (by assumption), by first | decide | omega | contradiction | exact absurd trivial (by assumption)⟩, ?_⟩⟩
          try (any_goals (exfalso; first | omega | exact absurd trivial (by assumption)))
          exact go _ (by omega)
        · rw [if_neg hadj] at es
          rw [if_neg hadj]
          refine ⟨fun q1 => ⟨⟨by first | decide | omega | contradiction | exact absurd trivial (by assumption), by first | decide | omega | contradiction | exact absurd trivial (by assumption)⟩, by first | decide | omega | contradiction | exact absurd trivial (by assumption), ⟨by first | decide | omega | contradiction | exact absurd trivial (by assumption), by first | decide | omega | contradiction | exact absurd trivial (by assumption)⟩, ⟨by first | decide | omega | contradiction | exact absurd trivial (by assumption), by first | decide | omega | contradiction | exact absurd trivial (by assumption)⟩, ?_⟩, fun q2 => ⟨by first | decide | omega | contradiction | exact absurd trivial (by assumption), by first | decide | omega | contradiction | exact absurd trivial (by assumption), ⟨by first | decide | omega | contradiction | exact absurd trivial (by assumption), by first | decide | omega | contradiction | exact absurd trivial (by assumption)⟩, ⟨by first | decide | omega | contradiction | exact absurd trivial (by assumption), by first | decide | omega | contradiction | exact absurd trivial (by assumption)⟩, by first | decide | omega | contradiction | exact absurd trivial (by assumption), ⟨by first | decide | omega | contradiction | exact absurd trivial (by assumption), by first | decide | omega | contradiction | exact absurd trivial (by assumption)⟩, ⟨by first | decide | omega | contradiction | exact absurd trivial (by assumption), by first | decide | omega | contradiction | exact absurd trivial (by assumption)⟩, ?_⟩⟩
          try (any_goals (exfalso; first | omega | exact absurd trivial (by assumption)))
          exact go _ (by omega)
      · rw [if_neg ho] at es
        rw [if_neg ho]
        refine ⟨fun q1 => ⟨⟨by first | decide | omega | contradiction | exact absurd trivial (by assumption), by first | decide | omega | contradiction | exact absurd trivial (by assumption)⟩, by first | decide | omega | contradiction | exact absurd trivial (by assumption), ⟨by first | decide | omega | contradiction | exact absurd trivial (by assumption), by first | decide | omega | contradiction | exact absurd trivial (by assumption)⟩, ⟨by first | decide | omega | contradiction | exact absurd trivial (by assumption), by first | decide | omega | contradiction | exact absurd trivial (by assumption)⟩, ?_⟩, fun q2 => ?_⟩
        try (any_goals (exfalso; first | omega | exact absurd trivial (by assumption)))
        exact go _ (by omega)
theorem ps_116 {rr : Int} {i : Nat} {y1 : Int} {v1 : zH} {QX : Nat → zH → Prop} (hW : Wok W) (hc : Cok W c) (hM : MW v1 W) (hO : v1 77 36 = cH c ∧ ∀ k : Int, 0 ≤ k → k < wO W → (k = v1 77 39 → cF c k = cU c k) ∧ (k ≠ v1 77 39 → v1 94 (5 * k + 2) = cF c k ∧ v1 94 (5 * k + 3) = cU c k)) (ha : isc (wR W) (wC W) i = true) (hy : 0 ≤ y1 ∧ y1 ≤ 2000) (hs : v1 96 i = cS c (ixn (wC W) i)) (h100 : 0 ≤ v1 100 i ∧ v1 100 i ≤ 2000) (hr : rr = if sRain (kR S) (cH c) then 1 else 0) (hsW : y1 + sOv W c (ixn (wC W) i) = sW3 W (sSn S) (kR S) c (ixn (wC W) i))
    (K : ∀ v' : zH, (∀ b : Int, b ≠ 97 → b ≠ 99 → b ≠ 100 → v' b = v1 b) → (∀ a : Int, a ≠ i → v' 97 a = v1 97 a ∧ v' 99 a = v1 99 a ∧ v' 100 a = v1 100 a) → v' 97 i = sWm W (sSn S) (kR S) c (ixn (wC W) i) → v' 100 i = v1 100 i + sOver W (sSn S) (kR S) c (ixn (wC W) i) → zJ l G 1 (d + 6) h_M_pass k_M_pass 115 Q QX 79 [(2, 77), (0, rr), (0, (i : Int) + 1), (3, 0), (3, 0)] [] v' 115) :
    ∀ (m k : Nat) {v : zH}, (k : Int) + m = wO W → (∀ b : Int, b ≠ 99 → v b = v1 b) → (∀ a : Int, a ≠ i → v 99 a = v1 99 a) → v 99 i = y1 + zsm (sOv1 W c (ixn (wC W) i)) k →
    zJ l G 1 (d + 6) h_M_pass k_M_pass 115 Q QX 116 [(2, 77), (0, rr), (0, (i : Int)), (0, (k : Int)), (3, 0)] [] v 115
  | m, k, v, hk, hF, hF2, hv => by
    obtain ⟨x0, x1, x2, x3, x4, x5, x6, x7, x8⟩ := gE hW.1.2 hW.2.1 ha
    have hN := hW.2.2.1
    have hO3 := hW.2.2.2.2.2.2.2.1
    have hMv : MW v W := MW_p (F9_p (fun b b1 b2 b3 b4 b5 b6 => hF b b5)) hM
    obtain ⟨⟨q1s, q2s⟩, q3s, q4s⟩ := hc.2.1 _ x0 (by omega : ixn (wC W) i < wN W)
    have hWt := hW.2.2.2.2.2.2.2.2.2.1 _ q1s q2s
    have e96 : v 96 i = cS c (ixn (wC W) i) := by rw [hF 96 (by omega)]; exact hs
    have e100 : v 100 i = v1 100 i := by rw [hF 100 (by omega)]
    have e33 : v 77 33 = wO W := hMv.2.2.2.1
    have e36 : v 77 36 = cH c := by rw [hF 77 (by omega)]; exact hO.1
    have hb := zsm_b (f := sOv1 W c (ixn (wC W) i)) (k := 20) k (fun o h1 h2 => sOv1_b hW h1 (by omega))
    match m, hk with
    | 0, hk =>
      have et : v 99 i = sW3 W (sSn S) (kR S) c (ixn (wC W) i) := by
        rw [hv, ← hsW]
        unfold sOv
        rw [show k = (wO W).toNat by omega]
      have ht2 : 0 ≤ sW3 W (sSn S) (kR S) c (ixn (wC W) i) ∧ sW3 W (sSn S) (kR S) c (ixn (wC W) i) ≤ 3000 := by
        rw [← et, hv]
        omega
      by_cases hrain : sRain (kR S) (cH c) = true
      · rw [if_pos hrain] at hr
        have w4 : sW4 W (sSn S) (kR S) c (ixn (wC W) i) = max 0 (sW3 W (sSn S) (kR S) c (ixn (wC W) i) - 2) := by unfold sW4; rw [if_pos hrain]
        have wo : sOver W (sSn S) (kR S) c (ixn (wC W) i) = max 0 (max 0 (sW3 W (sSn S) (kR S) c (ixn (wC W) i) - 2) - wT W (3 * cS c (ixn (wC W) i) + 1)) := by unfold sOver; rw [w4]
        have wm : sWm W (sSn S) (kR S) c (ixn (wC W) i) = max 0 (sW3 W (sSn S) (kR S) c (ixn (wC W) i) - 2) - sOver W (sSn S) (kR S) c (ixn (wC W) i) := by unfold sWm; rw [w4]
        refine zgo ck_M_pass 300 116 _ _ _ _ rfl (sg_M_pass_116 ?_)
        try simp (disch := omega) only [zup_e, zup_ak, zup_j, Int.zero_add, Int.reduceAdd, mz78, mz79, mz80, mz81, mz82, mz83, mz84, mz85, mz86, mz87, mz88, mz89, mz90, mz91, mz92, mz93, mz94, mz95, mz96, mz97, mz98, mz99, mz100, mz101, mz102, mz103, mz104, mz105, mz106, mz107, mz108, mz109, mz110, mz111, mz112, mz113, e33, et]
        refine ⟨by first | decide | omega | contradiction | exact absurd trivial (by assumption), ⟨fun q1 => ⟨fun q2 => ⟨by first | decide | omega | contradiction | exact absurd trivial (by assumption), by first | decide | omega | contradiction | exact absurd trivial (by assumption), ⟨by first | decide | omega | contradiction | exact absurd trivial (by assumption), by first | decide | omega | contradiction | exact absurd trivial (by assumption)⟩, by first | decide | omega | contradiction | exact absurd trivial (by assumption), ?_⟩, fun q3 => ⟨by first | decide | omega | contradiction | exact absurd trivial (by assumption), by first | decide | omega | contradiction | exact absurd trivial (by assumption), ⟨by first | decide | omega | contradiction | exact absurd trivial (by assumption), by first | decide | omega | contradiction | exact absurd trivial (by assumption)⟩, ⟨by first | decide | omega | contradiction | exact absurd trivial (by assumption), by first | decide | omega | contradiction | exact absurd trivial (by assumption)⟩, by first | decide | omega | contradiction | exact absurd trivial (by assumption), ?_⟩⟩, fun q4 => ⟨by first | decide | omega | contradiction | exact absurd trivial (by assumption), by first | decide | omega | contradiction | exact absurd trivial (by assumption), ?_⟩⟩⟩
        try (any_goals (exfalso; first | omega | exact absurd trivial (by assumption)))
        refine m_stone hW hMv (by omega) e96 ⟨q1s, q2s⟩ (by omega) ?_
        show _
        simp (disch := omega) only [zup_ak, e100]
        refine ⟨⟨by first | decide | omega | contradiction | exact absurd trivial (by assumption), by first | decide | omega | contradiction | exact absurd trivial (by assumption)⟩, by first | decide | omega | contradiction | exact absurd trivial (by assumption), ⟨by first | decide | omega | contradiction | exact absurd trivial (by assumption), by first | decide | omega | contradiction | exact absurd trivial (by assumption)⟩, by first | decide | omega | contradiction | exact absurd trivial (by assumption), ⟨by first | decide | omega | contradiction | exact absurd trivial (by assumption), by first | decide | omega | contradiction | exact absurd trivial (by assumption)⟩, by first | decide | omega | contradiction | exact absurd trivial (by assumption), by first | decide | omega | contradiction | exact absurd trivial (by assumption), ⟨by first | decide | omega | contradiction | exact absurd trivial (by assumption), by first | decide | omega | contradiction | exact absurd trivial (by assumption)⟩, ⟨by first | decide | omega | contradiction | exact absurd trivial (by assumption), by first | decide | omega | contradiction | exact absurd trivial (by assumption)⟩, by first | decide | omega | contradiction | exact absurd trivial (by assumption), ⟨by first | decide | omega | contradiction | exact absurd trivial (by assumption), by first | decide | omega | contradiction | exact absurd trivial (by assumption)⟩, ⟨by first | decide | omega | contradiction | exact absurd trivial (by assumption), by first | decide | omega | contradiction | exact absurd trivial (by assumption)⟩, ?_⟩
        refine K _ (fun b b1 b2 b3 => ?_) (fun a q => ⟨?_, ?_, ?_⟩) ?_ ?_
        · rw [zup_a b3, zup_a b1]; exact hF b b2
        · rw [zup_a (by omega), zup_j q, hF 97 (by omega)]
        · rw [zup_a (by omega), zup_a (by omega)]; exact hF2 a q
        · rw [zup_j q, zup_a (by omega), hF 100 (by omega)]
        · rw [zup_a (by omega), zup_s, wm, wo]
        · rw [zup_s, wo]
      · rw [if_neg hrain] at hr
        have w4 : sW4 W (sSn S) (kR S) c (ixn (wC W) i) = sW3 W (sSn S) (kR S) c (ixn (wC W) i) := by unfold sW4; rw [if_neg hrain]
        have wo : sOver W (sSn S) (kR S) c (ixn (wC W) i) = max 0 (sW3 W (sSn S) (kR S) c (ixn (wC W) i) - wT W (3 * cS c (ixn (wC W) i) + 1)) := by unfold sOver; rw [w4]
        have wm : sWm W (sSn S) (kR S) c (ixn (wC W) i) = sW3 W (sSn S) (kR S) c (ixn (wC W) i) - sOver W (sSn S) (kR S) c (ixn (wC W) i) := by unfold sWm; rw [w4]
        refine zgo ck_M_pass 300 116 _ _ _ _ rfl (sg_M_pass_116 ?_)
        try simp (disch := omega) only [zup_e, zup_ak, zup_j, Int.zero_add, Int.reduceAdd, mz78, mz79, mz80, mz81, mz82, mz83, mz84, mz85, mz86, mz87, mz88, mz89, mz90, mz91, mz92, mz93, mz94, mz95, mz96, mz97, mz98, mz99, mz100, mz101, mz102, mz103, mz104, mz105, mz106, mz107, mz108, mz109, mz110, mz111, mz112, mz113, e33, et]
        refine ⟨by first | decide | omega | contradiction | exact absurd trivial (by assumption), ⟨fun q1 => ⟨fun q2 => ⟨by first | decide | omega | contradiction | exact absurd trivial (by assumption), by first | decide | omega | contradiction | exact absurd trivial (by assumption), ⟨by first | decide | omega | contradiction | exact absurd trivial (by assumption), by first | decide | omega | contradiction | exact absurd trivial (by assumption)⟩, by first | decide | omega | contradiction | exact absurd trivial (by assumption), ?_⟩, fun q3 => ⟨by first | decide | omega | contradiction | exact absurd trivial (by assumption), by first | decide | omega | contradiction | exact absurd trivial (by assumption), ⟨by first | decide | omega | contradiction | exact absurd trivial (by assumption), by first | decide | omega | contradiction | exact absurd trivial (by assumption)⟩, ⟨by first | decide | omega | contradiction | exact absurd trivial (by assumption), by first | decide | omega | contradiction | exact absurd trivial (by assumption)⟩, by first | decide | omega | contradiction | exact absurd trivial (by assumption), ?_⟩⟩, fun q4 => ⟨by first | decide | omega | contradiction | exact absurd trivial (by assumption), by first | decide | omega | contradiction | exact absurd trivial (by assumption), ?_⟩⟩⟩
        try (any_goals (exfalso; first | omega | exact absurd trivial (by assumption)))
        refine m_stone hW hMv (by omega) e96 ⟨q1s, q2s⟩ (by omega) ?_
        show _
        simp (disch := omega) only [zup_ak, e100]
        refine ⟨⟨by first | decide | omega | contradiction | exact absurd trivial (by assumption), by first | decide | omega | contradiction | exact absurd trivial (by assumption)⟩, by first | decide | omega | contradiction | exact absurd trivial (by assumption), ⟨by first | decide | omega | contradiction | exact absurd trivial (by assumption), by first | decide | omega | contradiction | exact absurd trivial (by assumption)⟩, by first | decide | omega | contradiction | exact absurd trivial (by assumption), ⟨by first | decide | omega | contradiction | exact absurd trivial (by assumption), by first | decide | omega | contradiction | exact absurd trivial (by assumption)⟩, by first | decide | omega | contradiction | exact absurd trivial (by assumption), by first | decide | omega | contradiction | exact absurd trivial (by assumption), ⟨by first | decide | omega | contradiction | exact absurd trivial (by assumption), by first | decide | omega | contradiction | exact absurd trivial (by assumption)⟩, ⟨by first | decide | omega | contradiction | exact absurd trivial (by assumption), by first | decide | omega | contradiction | exact absurd trivial (by assumption)⟩, by first | decide | omega | contradiction | exact absurd trivial (by assumption), ⟨by first | decide | omega | contradiction | exact absurd trivial (by assumption), by first | decide | omega | contradiction | exact absurd trivial (by assumption)⟩, ⟨by first | decide | omega | contradiction | exact absurd trivial (by assumption), by first | decide | omega | contradiction | exact absurd trivial (by assumption)⟩, ?_⟩
        refine K _ (fun b b1 b2 b3 => ?_) (fun a q => ⟨?_, ?_, ?_⟩) ?_ ?_
        · rw [zup_a b3, zup_a b1]; exact hF b b2
        · rw [zup_a (by omega), zup_j q, hF 97 (by omega)]
        · rw [zup_a (by omega), zup_a (by omega)]; exact hF2 a q
        · rw [zup_j q, zup_a (by omega), hF 100 (by omega)]
        · rw [zup_a (by omega), zup_s, wm, wo]
        · rw [zup_s, wo]
    | m + 1, hk =>
      have es := zsm_s (g := sOv1 W c (ixn (wC W) i)) (n := k)
      have eo : sOv1 W c (ixn (wC W) i) (k : Int) = if sBurn (cF c k) (cU c k) (cH c) then (if oc W k = ixn (wC W) i then wV W (5 * k + 4) else if adj (wC W) (oc W k) (ixn (wC W) i) then wV W (5 * k + 4) / 2 else 0) else 0 := rfl
      have go : ∀ y : Int, y = y1 + zsm (sOv1 W c (ixn (wC W) i)) (k + 1) → zJ l G 1 (d + 6) h_M_pass k_M_pass 115 Q QX 116 [(2, 77), (0, rr), (0, (i : Int)), (0, (k : Int) + 1), (3, 0)] [] (zupd v 99 i y) 115 := by
        intro y e
        exact ps_116 hW hc hM hO ha hy hs h100 hr hsW K m (k + 1) (by omega) (fun b q => (zup_a q).trans (hF b q)) (fun a q => (zup_j q).trans (hF2 a q)) (zup_s.trans e)
      have hv4 := hMv.2.2.2.2.2.2.1 k (by omega) (by omega)
      obtain ⟨o1, o2, o3, o4, o5⟩ := hW.2.2.2.2.2.2.2.2.2.2.1 k (by omega) (by omega)
      have hoc : isc (wR W) (wC W) (10 * wV W (5 * k) + wV W (5 * k + 1)) = true := by
        rw [isc_iff]
        have h4 := hW.1
        have h6 := hW.2.1
        omega
      have hix : ixn (wC W) (10 * wV W (5 * k) + wV W (5 * k + 1)) = oc W k := by
        have h6 := hW.2.1
        unfold ixn oc
        rw [show (10 * wV W (5 * k) + wV W (5 * k + 1)) / 10 = wV W (5 * k) by omega, show (10 * wV W (5 * k) + wV W (5 * k + 1)) % 10 = wV W (5 * k + 1) by omega]
      have hnm : 10 * wV W (5 * k) + wV W (5 * k + 1) = i ↔ oc W k = ixn (wC W) i := by
        refine ⟨fun q => by rw [← hix, q], fun q => ?_⟩
        have := (gE hW.1.2 hW.2.1 hoc).2.2.2.2.1
        rw [hix, q, x4] at this
        exact this.symm
      have hadj : adj10 (10 * wV W (5 * k) + wV W (5 * k + 1)) i = adj (wC W) (oc W k) (ixn (wC W) i) := by rw [adj_nm hW.1.2 hW.2.1 hoc ha, hix]
      have hw4 := hW.1
      have hw6 := hW.2.1
      have hh := hc.1
      have hbk := hO.2 k (by omega) (by omega)
      have e39 : v 77 39 = v1 77 39 := by rw [hF 77 (by omega)]
      refine zgo ck_M_pass 300 116 _ _ _ _ rfl (sg_M_pass_116 ?_)
      try simp (disch := omega) only [zup_e, zup_ak, zup_j, Int.zero_add, Int.reduceAdd, mz78, mz79, mz80, mz81, mz82, mz83, mz84, mz85, mz86, mz87, mz88, mz89, mz90, mz91, mz92, mz93, mz94, mz95, mz96, mz97, mz98, mz99, mz100, mz101, mz102, mz103, mz104, mz105, mz106, mz107, mz108, mz109, mz110, mz111, mz112, mz113, e33, e36]
      refine ⟨by first | decide | omega | contradiction | exact absurd trivial (by assumption), ⟨fun q1 => ⟨fun q2 => ⟨by first | decide | omega | contradiction | exact absurd trivial (by assumption), by first | decide | omega | contradiction | exact absurd trivial (by assumption), ⟨by first | decide | omega | contradiction | exact absurd trivial (by assumption), by first | decide | omega | contradiction | exact absurd trivial (by assumption)⟩, by first | decide | omega | contradiction | exact absurd trivial (by assumption), ?_⟩, fun q3 => ⟨by first | decide | omega | contradiction | exact absurd trivial (by assumption), by first | decide | omega | contradiction | exact absurd trivial (by assumption), ⟨by first | decide | omega | contradiction | exact absurd trivial (by assumption), by first | decide | omega | contradiction | exact absurd trivial (by assumption)⟩, ⟨by first | decide | omega | contradiction | exact absurd trivial (by assumption), by first | decide | omega | contradiction | exact absurd trivial (by assumption)⟩, by first | decide | omega | contradiction | exact absurd trivial (by assumption), ?_⟩⟩, fun q4 => ⟨by first | decide | omega | contradiction | exact absurd trivial (by assumption), by first | decide | omega | contradiction | exact absurd trivial (by assumption), ?_⟩⟩⟩
      try (any_goals (exfalso; first | omega | exact absurd trivial (by assumption)))
      refine c_M_doesBurn (f := cF c k) (u := cU c k) (by omega) (by omega) (fun q => hbk.1 (by rw [q]; exact e39)) (fun q => by rw [hF 94 (by omega)]; exact hbk.2 (by rw [← e39]; exact q)) ?_
      by_cases hbn : sBurn (cF c k) (cU c k) (cH c) = true
      · rw [if_pos hbn] at eo
        rw [if_pos hbn]
        show _
        simp only [hv4.2.2]
        refine ⟨fun q1 => ⟨by first | decide | omega | contradiction | exact absurd trivial (by assumption), by first | decide | omega | contradiction | exact absurd trivial (by assumption), ⟨by first | decide | omega | contradiction | exact absurd trivial (by assumption), by first | decide | omega | contradiction | exact absurd trivial (by assumption)⟩, by first | decide | omega | contradiction | exact absurd trivial (by assumption), ?_⟩, fun q2 => ⟨by first | decide | omega | contradiction | exact absurd trivial (by assumption), ⟨by first | decide | omega | contradiction | exact absurd trivial (by assumption), by first | decide | omega | contradiction | exact absurd trivial (by assumption)⟩, ⟨by first | decide | omega | contradiction | exact absurd trivial (by assumption), by first | decide | omega | contradiction | exact absurd trivial (by assumption)⟩, by first | decide | omega | contradiction | exact absurd trivial (by assumption), ⟨by first | decide | omega | contradiction | exact absurd trivial (by assumption), by first | decide | omega | contradiction | exact absurd trivial (by assumption)⟩, by first | decide | omega | contradiction | exact absurd trivial (by assumption), by first | decide | omega | contradiction | exact absurd trivial (by assumption), ⟨by first | decide | omega | contradiction | exact absurd trivial (by assumption), by first | decide | omega | contradiction | exact absurd trivial (by assumption)⟩, by first | decide | omega | contradiction | exact absurd trivial (by assumption), ?_⟩⟩
        try (any_goals (exfalso; first | omega | exact absurd trivial (by assumption)))
        refine c_M_ovenCell (by omega) (by omega) (by omega) ?_
        rw [hv4.1, hv4.2.1]
        by_cases hn : oc W k = ixn (wC W) i
        · rw [if_pos hn] at eo
          have hn' := hnm.mpr hn
          refine ⟨fun q1 => ⟨by first | decide | omega | contradiction | exact absurd trivial (by assumption), ?_⟩, fun q2 => ⟨⟨by first | decide | omega | contradiction | exact absurd trivial (by assumption), by first | decide | omega | contradiction | exact absurd trivial (by assumption)⟩, by first | decide | omega | contradiction | exact absurd trivial (by assumption), ⟨by first | decide | omega | contradiction | exact absurd trivial (by assumption), by first | decide | omega | contradiction | exact absurd trivial (by assumption)⟩, ⟨by first | decide | omega | contradiction | exact absurd trivial (by assumption), by first | decide | omega | contradiction | exact absurd trivial (by assumption)⟩, ?_⟩⟩
          try (any_goals (exfalso; first | omega | exact absurd trivial (by assumption)))
          exact go _ (by omega)
        · rw [if_neg hn] at eo
          have hn' : ¬ 10 * wV W (5 * k) + wV W (5 * k + 1) = i := fun q => hn (hnm.mp q)
          refine ⟨fun q1 => ⟨by first | decide | omega | contradiction | exact absurd trivial (by assumption), ?_⟩, fun q2 => ⟨⟨by first | decide | omega | contradiction | exact absurd trivial (by assumption), by first | decide | omega | contradiction | exact absurd trivial (by assumption)⟩, by first | decide | omega | contradiction | exact absurd trivial (by assumption), ⟨by first | decide | omega | contradiction | exact absurd trivial (by assumption), by first | decide | omega | contradiction | exact absurd trivial (by assumption)⟩, ⟨by first | decide | omega | contradiction | exact absurd trivial (by assumption), by first | decide | omega | contradiction | exact absurd trivial (by assumption)⟩, ?_⟩⟩
          try (any_goals (exfalso; first | omega | exact absurd trivial (by assumption)))
          refine c_M_ovenCell (by omega) (by omega) (by omega) ?_
          rw [hv4.1, hv4.2.1]
          refine c_M_areBeside (by omega) (by omega) ?_
          rw [hadj]
          by_cases hd : adj (wC W) (oc W k) (ixn (wC W) i) = true
          · rw [if_pos hd] at eo
            rw [if_pos hd]
            have h2 : (wV W (5 * k + 4)).tdiv 2 = wV W (5 * k + 4) / 2 := ztd o5.1
            show _
            simp only [h2]
            refine ⟨fun q1 => ⟨⟨by first | decide | omega | contradiction | exact absurd trivial (by assumption), by first | decide | omega | contradiction | exact absurd trivial (by assumption)⟩, by first | decide | omega | contradiction | exact absurd trivial (by assumption), ⟨by first | decide | omega | contradiction | exact absurd trivial (by assumption), by first | decide | omega | contradiction | exact absurd trivial (by assumption)⟩, ⟨by first | decide | omega | contradiction | exact absurd trivial (by assumption), by first | decide | omega | contradiction | exact absurd trivial (by assumption)⟩, ?_⟩, fun q2 => ⟨⟨by first | decide | omega | contradiction | exact absurd trivial (by assumption), by first | decide | omega | contradiction | exact absurd trivial (by assumption)⟩, by first | decide | omega | contradiction | exact absurd trivial (by assumption), ⟨by first | decide | omega | contradiction | exact absurd trivial (by assumption), by first | decide | omega | contradiction | exact absurd trivial (by assumption)⟩, ⟨by first | decide | omega | contradiction | exact absurd trivial (by assumption), by first | decide | omega | contradiction | exact absurd trivial (by assumption)⟩, ?_⟩⟩
            try (any_goals (exfalso; first | omega | exact absurd trivial (by assumption)))
            exact go _ (by omega)
          · rw [if_neg hd] at eo
            rw [if_neg hd]
            refine ⟨fun q1 => ⟨⟨by first | decide | omega | contradiction | exact absurd trivial (by assumption), by first | decide | omega | contradiction | exact absurd trivial (by assumption)⟩, by first | decide | omega | contradiction | exact absurd trivial (by assumption), ⟨by first | decide | omega | contradiction | exact absurd trivial (by assumption), by first | decide | omega | contradiction | exact absurd trivial (by assumption)⟩, ⟨by first | decide | omega | contradiction | exact absurd trivial (by assumption), by first | decide | omega | contradiction | exact absurd trivial (by assumption)⟩, ?_⟩, fun q2 => ⟨⟨by first | decide | omega | contradiction | exact absurd trivial (by assumption), by first | decide | omega | contradiction | exact absurd trivial (by assumption)⟩, by first | decide | omega | contradiction | exact absurd trivial (by assumption), ⟨by first | decide | omega | contradiction | exact absurd trivial (by assumption), by first | decide | omega | contradiction | exact absurd trivial (by assumption)⟩, ⟨by first | decide | omega | contradiction | exact absurd trivial (by assumption), by first | decide | omega | contradiction | exact absurd trivial (by assumption)⟩, ?_⟩⟩
            try (any_goals (exfalso; first | omega | exact absurd trivial (by assumption)))
            exact go _ (by omega)
      · rw [if_neg hbn] at eo
        rw [if_neg hbn]
        refine ⟨fun q1 => ⟨by first | decide | omega | contradiction | exact absurd trivial (by assumption), by first | decide | omega | contradiction | exact absurd trivial (by assumption), ⟨by first | decide | omega | contradiction | exact absurd trivial (by assumption), by first | decide | omega | contradiction | exact absurd trivial (by assumption)⟩, by first | decide | omega | contradiction | exact absurd trivial (by assumption), ?_⟩, fun q2 => ⟨by first | decide | omega | contradiction | exact absurd trivial (by assumption), ⟨by first | decide | omega | contradiction | exact absurd trivial (by assumption), by first | decide | omega | contradiction | exact absurd trivial (by assumption)⟩, ⟨by first | decide | omega | contradiction | exact absurd trivial (by assumption), by first | decide | omega | contradiction | exact absurd trivial (by assumption)⟩, by first | decide | omega | contradiction | exact absurd trivial (by assumption), ⟨by first | decide | omega | contradiction | exact absurd trivial (by assumption), by first | decide | omega | contradiction | exact absurd trivial (by assumption)⟩, by first | decide | omega | contradiction | exact absurd trivial (by assumption), by first | decide | omega | contradiction | exact absurd trivial (by assumption), ⟨by first | decide | omega | contradiction | exact absurd trivial (by assumption), by first | decide | omega | contradiction | exact absurd trivial (by assumption)⟩, by first | decide | omega | contradiction | exact absurd trivial (by assumption), ?_⟩⟩
        try (any_goals (exfalso; first | omega | exact absurd trivial (by assumption)))
        refine c_M_ovenCell (by omega) (by omega) (by omega) ?_
        rw [hv4.1, hv4.2.1]
        by_cases hn : 10 * wV W (5 * k) + wV W (5 * k + 1) = i
        · refine ⟨fun q1 => ⟨by first | decide | omega | contradiction | exact absurd trivial (by assumption), ?_⟩, fun q2 => ⟨⟨by first | decide | omega | contradiction | exact absurd trivial (by assumption), by first | decide | omega | contradiction | exact absurd trivial (by assumption)⟩, by first | decide | omega | contradiction | exact absurd trivial (by assumption), ⟨by first | decide | omega | contradiction | exact absurd trivial (by assumption), by first | decide | omega | contradiction | exact absurd trivial (by assumption)⟩, ⟨by first | decide | omega | contradiction | exact absurd trivial (by assumption), by first | decide | omega | contradiction | exact absurd trivial (by assumption)⟩, ?_⟩⟩
          try (any_goals (exfalso; first | omega | exact absurd trivial (by assumption)))
          exact go _ (by omega)
        · refine ⟨fun q1 => ⟨by first | decide | omega | contradiction | exact absurd trivial (by assumption), ?_⟩, fun q2 => ⟨⟨by first | decide | omega | contradiction | exact absurd trivial (by assumption), by first | decide | omega | contradiction | exact absurd trivial (by assumption)⟩, by first | decide | omega | contradiction | exact absurd trivial (by assumption), ⟨by first | decide | omega | contradiction | exact absurd trivial (by assumption), by first | decide | omega | contradiction | exact absurd trivial (by assumption)⟩, ⟨by first | decide | omega | contradiction | exact absurd trivial (by assumption), by first | decide | omega | contradiction | exact absurd trivial (by assumption)⟩, ?_⟩⟩
          try (any_goals (exfalso; first | omega | exact absurd trivial (by assumption)))
          refine c_M_ovenCell (by omega) (by omega) (by omega) ?_
          rw [hv4.1, hv4.2.1]
          refine c_M_areBeside (by omega) (by omega) ?_
          have h2 : (0 : Int).tdiv 2 = 0 := by decide
          by_cases hd : adj10 (10 * wV W (5 * k) + wV W (5 * k + 1)) i = true
          · rw [if_pos hd]
            show _
            simp only [h2]
            refine ⟨fun q1 => ⟨⟨by first | decide | omega | contradiction | exact absurd trivial (by assumption), by first | decide | omega | contradiction | exact absurd trivial (by assumption)⟩, by first | decide | omega | contradiction | exact absurd trivial (by assumption), ⟨by first | decide | omega | contradiction | exact absurd trivial (by assumption), by first | decide | omega | contradiction | exact absurd trivial (by assumption)⟩, ⟨by first | decide | omega | contradiction | exact absurd trivial (by assumption), by first | decide | omega | contradiction | exact absurd trivial (by assumption)⟩, ?_⟩, fun q2 => ⟨⟨by first | decide | omega | contradiction | exact absurd trivial (by assumption), by first | decide | omega | contradiction | exact absurd trivial (by assumption)⟩, by first | decide | omega | contradiction | exact absurd trivial (by assumption), ⟨by first | decide | omega | contradiction | exact absurd trivial (by assumption), by first | decide | omega | contradiction | exact absurd trivial (by assumption)⟩, ⟨by first | decide | omega | contradiction | exact absurd trivial (by assumption), by first | decide | omega | contradiction | exact absurd trivial (by assumption)⟩, ?_⟩⟩
            try (any_goals (exfalso; first | omega | exact absurd trivial (by assumption)))
            exact go _ (by omega)
          · rw [if_neg hd]
            refine ⟨fun q1 => ⟨⟨by first | decide | omega | contradiction | exact absurd trivial (by assumption), by first | decide | omega | contradiction | exact absurd trivial (by assumption)⟩, by first | decide | omega | contradiction | exact absurd trivial (by assumption), ⟨by first | decide | omega | contradiction | exact absurd trivial (by assumption), by first | decide | omega | contradiction | exact absurd trivial (by assumption)⟩, ⟨by first | decide | omega | contradiction | exact absurd trivial (by assumption), by first | decide | omega | contradiction | exact absurd trivial (by assumption)⟩, ?_⟩, fun q2 => ⟨⟨by first | decide | omega | contradiction | exact absurd trivial (by assumption), by first | decide | omega | contradiction | exact absurd trivial (by assumption)⟩, by first | decide | omega | contradiction | exact absurd trivial (by assumption), ⟨by first | decide | omega | contradiction | exact absurd trivial (by assumption), by first | decide | omega | contradiction | exact absurd trivial (by assumption)⟩, ⟨by first | decide | omega | contradiction | exact absurd trivial (by assumption), by first | decide | omega | contradiction | exact absurd trivial (by assumption)⟩, ?_⟩⟩
            try (any_goals (exfalso; first | omega | exact absurd trivial (by assumption)))
            exact go _ (by omega)
theorem ps_79 {v0 : zH} {rr : Int} {QX : Nat → zH → Prop} (hQ : MQc v0 W c S) (hh : cH c < 1000000) (hr : rr = if sRain (kR S) (cH c) then 1 else 0)
    (K : ∀ v' : zH, Fp v0 v' → MQc v' W (sStep W (sSn S) (kR S) c) S → (∀ a : Int, isc (wR W) (wC W) a = true → v' 100 a = sFelt W (sSn S) (kR S) c (ixn (wC W) a) ∧ v' 98 a = sGiv W c (ixn (wC W) a) / 4) → Q 0 v') :
    ∀ (m i : Nat) {v : zH}, i + m = 36 → F9 v0 v → (∀ a : Int, isc (wR W) (wC W) a = true → v 98 a = sGiv W c (ixn (wC W) a) / 4 ∧ (a < i → v 97 a = sWm W (sSn S) (kR S) c (ixn (wC W) a) ∧ v 100 a = sFelt W (sSn S) (kR S) c (ixn (wC W) a)) ∧ (i ≤ a → v 97 a = cW c (ixn (wC W) a) ∧ v 99 a = stA W (sSn S) (kR S) c (ixn (wC W) a) ∧ v 100 a = sGiv W c (ixn (wC W) a) - sGiv W c (ixn (wC W) a) / 4 * sCnt W (ixn (wC W) a))) →
    zJ l G 1 (d + 6) h_M_pass k_M_pass 115 Q QX 79 [(2, 77), (0, rr), (0, (i : Int)), (3, 0), (3, 0)] [] v 115
  | m, i, v, hi, hF, hp => by
    obtain ⟨hW, hM0, hc, hO0, hk, hS0⟩ := id hQ
    have hM := MW_p (F9_p hF) hM0
    have e36 : v 77 36 = cH c := by rw [hF 77 (by omega) (by omega) (by omega) (by omega) (by omega) (by omega)]; exact hO0.1
    have hcb := hc.1
    match m, hi with
    | 0, hi =>
      refine zgo ck_M_pass 300 79 _ _ _ _ rfl (sg_M_pass_79 ?_)
      try simp (disch := omega) only [zup_e, zup_ak, zup_j, Int.zero_add, Int.reduceAdd, mz78, mz79, mz80, mz81, mz82, mz83, mz84, mz85, mz86, mz87, mz88, mz89, mz90, mz91, mz92, mz93, mz94, mz95, mz96, mz97, mz98, mz99, mz100, mz101, mz102, mz103, mz104, mz105, mz106, mz107, mz108, mz109, mz110, mz111, mz112, mz113, e36]
      refine ⟨fun q1 => ⟨by first | decide | omega | contradiction | exact absurd trivial (by assumption), ⟨by first | decide | omega | contradiction | exact absurd trivial (by assumption), by first | decide | omega | contradiction | exact absurd trivial (by assumption)⟩, by first | decide | omega | contradiction | exact absurd trivial (by assumption), ?_⟩, fun q2 => ⟨by first | decide | omega | contradiction | exact absurd trivial (by assumption), ?_⟩⟩
      try (any_goals (exfalso; first | omega | exact absurd trivial (by assumption)))
      have hF1 : Fp v0 (zupd v 77 36 (cH c + 1)) := ⟨fun b b0 b1 b2 b3 b4 b5 b6 => (zup_a b0).trans (hF b b1 b2 b3 b4 b5 b6), fun k q => (zup_j q).trans (by rw [hF 77 (by omega) (by omega) (by omega) (by omega) (by omega) (by omega)])⟩
      have hl : ∀ a : Int, isc (wR W) (wC W) a = true → a < i := fun a ha => by
        have := gE hW.1.2 hW.2.1 ha
        omega
      refine K _ hF1 ⟨hW, MW_p hF1 hM0, Cok_step snOk_S hW hc hh, ⟨zup_s, fun a ha => ⟨?_, ?_⟩, fun k k1 k2 => ?_⟩, hk, MS_p hF1 hS0⟩ (fun a ha => ⟨?_, ?_⟩)
      · rw [zup_a (by omega)]
        exact ((hp a ha).2.1 (hl a ha)).1
      · rw [zup_a (by omega), hF 96 (by omega) (by omega) (by omega) (by omega) (by omega) (by omega)]
        exact (hO0.2.1 a ha).2
      · have e39 : (zupd v 77 36 (cH c + 1)) 77 39 = v0 77 39 := hF1.2 39 (by omega)
        rw [e39, zup_a (by omega), hF 94 (by omega) (by omega) (by omega) (by omega) (by omega) (by omega)]
        exact hO0.2.2 k k1 k2
      · rw [zup_a (by omega)]
        exact ((hp a ha).2.1 (hl a ha)).2
      · rw [zup_a (by omega)]
        exact (hp a ha).1
    | m + 1, hi =>
      refine zgo ck_M_pass 300 79 _ _ _ _ rfl (sg_M_pass_79 ?_)
      try simp (disch := omega) only [zup_e, zup_ak, zup_j, Int.zero_add, Int.reduceAdd, mz78, mz79, mz80, mz81, mz82, mz83, mz84, mz85, mz86, mz87, mz88, mz89, mz90, mz91, mz92, mz93, mz94, mz95, mz96, mz97, mz98, mz99, mz100, mz101, mz102, mz103, mz104, mz105, mz106, mz107, mz108, mz109, mz110, mz111, mz112, mz113]
      refine ⟨fun q1 => ⟨by first | decide | omega | contradiction | exact absurd trivial (by assumption), ⟨by first | decide | omega | contradiction | exact absurd trivial (by assumption), by first | decide | omega | contradiction | exact absurd trivial (by assumption)⟩, by first | decide | omega | contradiction | exact absurd trivial (by assumption), ?_⟩, fun q2 => ⟨by first | decide | omega | contradiction | exact absurd trivial (by assumption), ?_⟩⟩
      try (any_goals (exfalso; first | omega | exact absurd trivial (by assumption)))
      refine m_cell hM ?_
      by_cases ha : isc (wR W) (wC W) i = true
      rotate_left
      · rw [if_neg ha]
        refine ⟨fun q1 => ⟨⟨by first | decide | omega | contradiction | exact absurd trivial (by assumption), by first | decide | omega | contradiction | exact absurd trivial (by assumption)⟩, ?_⟩, fun q2 => ?_⟩
        try (any_goals (exfalso; first | omega | exact absurd trivial (by assumption)))
        refine ps_79 hQ hh hr K m (i + 1) (by omega) hF (fun a h1 => ⟨(hp a h1).1, fun h2 => (hp a h1).2.1 ?_, fun h2 => (hp a h1).2.2 (by omega)⟩)
        have : a ≠ i := fun e => ha (by rw [← e]; exact h1)
        omega
      obtain ⟨x0, x1, x2, x3, x4, x5, x6, x7, x8⟩ := gE hW.1.2 hW.2.1 ha
      have hN := hW.2.2.1
      obtain ⟨p1, p2, p3⟩ := hp i ha
      obtain ⟨r1, r2, r3⟩ := p3 (by omega)
      have hab := stA_b (rn := kR S) (sn := sSn S) snOk_S hW hc x0 (by omega : ixn (wC W) i < wN W)
      have hgb := sGiv_b hW hc x0 (by omega : ixn (wC W) i < wN W)
      have hct := sCnt_b hW x0 (by omega : ixn (wC W) i < wN W)
      have hsc0 : 0 ≤ sGiv W c (ixn (wC W) i) / 4 * sCnt W (ixn (wC W) i) := Int.mul_nonneg (by omega) hct.1
      have hsc1 : sGiv W c (ixn (wC W) i) / 4 * sCnt W (ixn (wC W) i) ≤ sGiv W c (ixn (wC W) i) / 4 * 4 := Int.mul_le_mul_of_nonneg_left hct.2 (by omega)
      have hnb := sNb_b (a := ixn (wC W) i) (k := 24) (f := fun o => sGiv W c o / 4) (by omega) hW (fun o h0 h1 => by
        have := sGiv_b hW hc h0 h1
        omega)
      rw [if_pos ha]
      refine ⟨fun q1 => ⟨⟨by first | decide | omega | contradiction | exact absurd trivial (by assumption), by first | decide | omega | contradiction | exact absurd trivial (by assumption)⟩, ?_⟩, fun q2 => ?_⟩
      try (any_goals (exfalso; first | omega | exact absurd trivial (by assumption)))
      refine ps_88 (y0 := stA W (sSn S) (kR S) c (ixn (wC W) i)) hW hc hM ha (by omega) (fun a h1 => (hp a h1).1) (fun v2 f1 f2 f3 => ?_) 36 0 (by omega) (fun _ _ => rfl) (fun _ _ => rfl) (by rw [r2]; exact (Int.add_zero _).symm)
      have hM2 : MW v2 W := MW_p (F9_p (fun b b1 b2 b3 b4 b5 b6 => f1 b b5)) hM
      have hO2 : v2 77 36 = cH c ∧ ∀ k : Int, 0 ≤ k → k < wO W → (k = v2 77 39 → cF c k = cU c k) ∧ (k ≠ v2 77 39 → v2 94 (5 * k + 2) = cF c k ∧ v2 94 (5 * k + 3) = cU c k) := by
        rw [f1 77 (by omega), f1 94 (by omega), hF 77 (by omega) (by omega) (by omega) (by omega) (by omega) (by omega), hF 94 (by omega) (by omega) (by omega) (by omega) (by omega) (by omega)]
        exact ⟨hO0.1, hO0.2.2⟩
      refine ps_116 (S := S) (y1 := stA W (sSn S) (kR S) c (ixn (wC W) i) + sNb W (fun o => sGiv W c o / 4) (ixn (wC W) i)) hW hc hM2 hO2 ha (by omega) (by rw [f1 96 (by omega), hF 96 (by omega) (by omega) (by omega) (by omega) (by omega) (by omega)]; exact (hO0.2.1 i ha).2) (by rw [f1 100 (by omega), r3]; omega) hr ?_ (fun v3 g1 g2 g3 g4 => ?_) (wO W).toNat 0 (by have := hW.2.2.2.2.2.2.2.1; omega) (fun _ _ => rfl) (fun _ _ => rfl) (by rw [f3]; exact (Int.add_zero _).symm)
      · show stA W (sSn S) (kR S) c (ixn (wC W) i) + sNb W (fun o => sGiv W c o / 4) (ixn (wC W) i) + sOv W c (ixn (wC W) i) = _
        unfold stA sW3
        omega
      · refine ps_79 hQ hh hr K m (i + 1) (by omega) (fun b b1 b2 b3 b4 b5 b6 => (g1 b b3 b5 b6).trans ((f1 b b5).trans (hF b b1 b2 b3 b4 b5 b6))) (fun a h1 => ⟨?_, fun h2 => ?_, fun h2 => ?_⟩)
        · rw [g1 98 (by omega) (by omega) (by omega), f1 98 (by omega)]
          exact (hp a h1).1
        · by_cases e : a = i
          · subst e
            rw [g3, g4, f1 100 (by omega), r3]
            exact ⟨rfl, rfl⟩
          · obtain ⟨y1, y2, y3⟩ := g2 a e
            rw [y1, y3, f1 97 (by omega), f1 100 (by omega)]
            exact (hp a h1).2.1 (by omega)
        · obtain ⟨y1, y2, y3⟩ := g2 a (by omega)
          rw [y1, y2, y3, f1 97 (by omega), f1 100 (by omega), f2 a (by omega)]
          exact (hp a h1).2.2 (by omega)
theorem c_M_pass (hQ : MQc v W c S) (hh : cH c < 1000000)
    (K : ∀ v' : zH, Fp v v' → MQc v' W (sStep W (sSn S) (kR S) c) S → (∀ a : Int, isc (wR W) (wC W) a = true → v' 100 a = sFelt W (sSn S) (kR S) c (ixn (wC W) a) ∧ v' 98 a = sGiv W c (ixn (wC W) a) / 4) → Q 0 v') : zC l G 1 (d + 6) h_M_pass [(2, 77)] v 115 Q := by
  obtain ⟨hW, hM0, hc, hO0, hk, hS0⟩ := id hQ
  have hcb := hc.1
  refine zC_at ok_M_pass ck_M_pass rfl rfl (sg_M_pass_0 ?_)
  rw [hO0.1, hS0.2.1, ztm hcb.1]
  refine ⟨by first | decide | omega | contradiction | exact absurd trivial (by assumption), by first | decide | omega | contradiction | exact absurd trivial (by assumption), ?_⟩
  refine c_M_has ?_
  refine ps_10 hQ rfl (fun v1 f1 f2 f3 => ?_) 36 0 (by omega) (fun _ _ _ _ _ _ _ => rfl) rfl (fun a h1 h2 => by
    have := gE hW.1.2 hW.2.1 h1
    omega)
  refine ps_79 hQ hh rfl K 36 0 (by omega) f1 (fun a h1 => ⟨(f3 a h1).1, fun h2 => ?_, fun _ => ⟨?_, (f3 a h1).2.2, (f3 a h1).2.1⟩⟩)
  · have := gE hW.1.2 hW.2.1 h1
    omega
  · rw [f2]
    exact (hO0.2.1 a h1).1
end
