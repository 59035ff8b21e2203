/-! THE CLASS: an hour -/
section
variable {l : Launch} {G : zG} {d : Nat} {v : zH} {Q : Int → zH → Prop}
theorem c_Co_burns {o k : Int} {W : zWl} {c : zCo} (ho : zco o) (hc : Cok W c) (hO : CO v o W c) (hk : 0 ≤ k ∧ k < wO W) (hW : Wok W) (K : Q (if sBurn (cF c k) (cU c k) (cH c) then 1 else 0) v) : zC l G 1 (d + 1) h_Co_burns [(2, o), (0, k)] v 115 Q := by
  obtain ⟨o1, o2, o3⟩ := hO
  have e := o3 k hk.1 hk.2
  have hh := hc.1
  obtain ⟨W1, W2, W3, W4, W5, W6, W7, W8, W9, WT, WV, WZ, WG⟩ := hW
  refine c2_Co_burns (zco_f ho) (by omega) (by omega) ?_
  rw [o1, e.1, e.2]
  refine zQe K ?_
  unfold sBurn
  split <;> simp
/-- behind the first round of an hour -/
def stA (W : zWl) (sn : zSn) (rn : Int) (c : zCo) (a : Int) : Int := cW c a - sGiv W c a + sSun W sn rn c a
theorem st_A {o w rr : Int} {W : zWl} {S : zSk} {c : zCo} {v0 : zH} {QX : Nat → zH → Prop} (ho : zco o) (hw : zwo w) (hW : Wok W) (hl : WL v0 w W) (hc : Cok W c) (hO : CO v0 o W c) (hk : Sok S) (hr : rr = if sRain (kR S) (cH c) then 1 else 0)
    (K : ∀ v' : zH, (∀ b, fK b → b ≠ o + 1 → b ≠ o + 2 → b ≠ o + 8 → v' b = v0 b) → SK v' S → (∀ a : Int, 0 ≤ a → a < wN W → v' (o + 1) a = stA W (sSn S) (kR S) c a ∧ v' (o + 2) a = sGiv W c a ∧ v' (o + 8) a = sGiv W c a) → zJ l G 1 (d + 4) h_Co_step k_Co_step 115 Q QX 78 [(2, o), (2, w), (3, 0), (0, rr), (0, 0), (3, 0), (3, 0)] [] v' 115) :
    ∀ (m : Nat) {i : Int} {v : zH}, 0 ≤ i → i + m = wN W → (∀ b, fK b → b ≠ o + 1 → b ≠ o + 2 → b ≠ o + 8 → v b = v0 b) → SK v S → (∀ a : Int, 0 ≤ a → a < i → v (o + 1) a = stA W (sSn S) (kR S) c a ∧ v (o + 2) a = sGiv W c a ∧ v (o + 8) a = sGiv W c a) → (∀ a : Int, i ≤ a → a < wN W → v (o + 1) a = cW c a) →
    zJ l G 1 (d + 4) h_Co_step k_Co_step 115 Q QX 7 [(2, o), (2, w), (2, 5), (0, rr), (0, i), (3, 0), (3, 0)] [] v 115
  | 0, i, v, h0, hi, hf, hS, hp, hq => by
    obtain ⟨w0, w1, w3, w5, ⟨w7, w7'⟩, ⟨w8, w8'⟩, ⟨w9, w9'⟩, ⟨w10, w10'⟩, ⟨w11, w11'⟩, ⟨w12, w12'⟩⟩ := zwo_f hw
    have hl' : WL v w W := WL_fr (fun a h1 h2 => hf a (by unfold fK; omega) (by omega) (by omega) (by omega)) hl
    obtain ⟨l1, l2, l3, l4, l5, l6, l7, l8, l9, l10⟩ := hl
    refine zgo ck_Co_step 300 7 _ _ _ _ rfl (sg_Co_step_7 ?_)
    rw [hl'.2.2.1]
    refine ⟨w0, fun _ => K v hf hS (fun a h1 h2 => hp a h1 (by omega)), fun q => absurd q (by omega)⟩
  | m + 1, i, v, h0, hi, hf, hS, hp, hq => by
    have hw' := hw
    have hW' := hW
    have hl' : WL v w W := WL_fr (fun a h1 h2 => hf a (by unfold fK; omega) (by omega) (by omega) (by omega)) hl
    have hiN : i < wN W := by omega
    have hN := hW.2.2.2.1
    have hN2 := hW.2.2.1
    have hgA := gA (R := wR W) hW.2.1 ⟨h0, by omega⟩
    have hRC := hW.1
    have hCC := hW.2.1
    have hS4 := hW.2.2.2.2.2.2.1
    obtain ⟨⟨cb1, cb2⟩, cb3, cb4⟩ := hc.2.1 i h0 hiN
    have ht := hW.2.2.2.2.2.2.2.2.2.1 (cS c i) cb1 cb2
    obtain ⟨o1, o2, o3⟩ := hO
    have eH : v o 8 = cH c := by rw [hf o (by unfold fK; omega) (by omega) (by omega) (by omega)]; exact o1
    have eW : v (o + 1) i = cW c i := hq i (by omega) hiN
    have eS : v (o + 3) i = cS c i := by rw [hf (o + 3) (by unfold fK; omega) (by omega) (by omega) (by omega)]; exact (o2 i h0 hiN).2
    have eG := sGiv_b hW hc h0 hiN
    obtain ⟨er, ec, -, -⟩ := hl'.2.2.2.2.2.2.2.2.2 i h0 hiN
    have hN3 := hl'.2.2.1
    obtain ⟨c0, ⟨c1, c1'⟩, ⟨c2, c2'⟩, ⟨c3, c3'⟩, ⟨c4, c4'⟩, ⟨c5, c5'⟩, ⟨c6, c6'⟩, ⟨c7, c7'⟩, ⟨c8, c8'⟩⟩ := zco_f ho
    obtain ⟨w0, w1, w3, w5, ⟨w7, w7'⟩, ⟨w8, w8'⟩, ⟨w9, w9'⟩, ⟨w10, w10'⟩, ⟨w11, w11'⟩, ⟨w12, w12'⟩⟩ := zwo_f hw
    have frame : ∀ x : Int, ∀ b, fK b → b ≠ o + 1 → b ≠ o + 2 → b ≠ o + 8 → (zupd (zupd (zupd v (o + 8) i (sGiv W c i)) (o + 2) i (sGiv W c i)) (o + 1) i x) b = v0 b := by
      intro x b q1 q2 q3 q4
      rw [zup_a q2, zup_a q3, zup_a q4]
      exact hf b q1 q2 q3 q4
    have hSK : ∀ x : Int, SK (zupd (zupd (zupd v (o + 8) i (sGiv W c i)) (o + 2) i (sGiv W c i)) (o + 1) i x) S := by
      intro x
      refine SK_fk hk (fun b q1 q2 => ?_) hS
      rw [zup_a (by omega), zup_a (by omega), zup_a (by omega)]
    refine zgo ck_Co_step 300 7 _ _ _ _ rfl (sg_Co_step_7 ?_)
    rw [hN3]
    refine ⟨w0, fun q => absurd q (by omega), fun _ => ⟨c0, c0, ?_⟩⟩
    refine c_Co_givenBy ho hw' hW' hl' (by omega) eW eS (by omega) ⟨cb1, cb2⟩ rfl ?_
    show _
    have eg : cW c i * wT W (3 * cS c i + 2) / 10 = sGiv W c i := rfl
    rw [eg]
    simp (disch := omega) only [zup_e, zup_ak, zup_j, eW, eH, eS, er, ec]
    by_cases hrain : sRain (kR S) (cH c) = true
    · rw [if_pos hrain] at hr
      refine ⟨by first | decide | omega, ⟨by first | decide | omega, by first | decide | omega⟩, by first | decide | omega, by first | decide | omega, by first | decide | omega, ⟨by first | decide | omega, by first | decide | omega⟩, by first | decide | omega, ⟨by first | decide | omega, by first | decide | omega⟩, by first | decide | omega, by first | decide | omega, ⟨by first | decide | omega, by first | decide | omega⟩, by first | decide | omega, by first | decide | omega, ⟨by first | decide | omega, by first | decide | omega⟩, ⟨by first | decide | omega, by first | decide | omega⟩, by first | decide | omega, ⟨by first | decide | omega, by first | decide | omega⟩, ⟨fun q1 => ⟨⟨by first | decide | omega, by first | decide | omega⟩, ?_⟩, fun q2 => ⟨by first | decide | omega, by first | decide | omega, by first | decide | omega, ⟨by first | decide | omega, by first | decide | omega⟩, by first | decide | omega, by first | decide | omega, ⟨by first | decide | omega, by first | decide | omega⟩, by first | decide | omega, by first | decide | omega, ⟨by first | decide | omega, by first | decide | omega⟩, by first | decide | omega, ?_⟩⟩⟩
      try (any_goals (exfalso; omega))
      refine st_A ho hw' hW' hl hc ⟨o1, o2, o3⟩ hk (by rw [if_pos hrain]; exact hr) K m (by omega) (by omega) (frame _) (hSK _) (fun a h1 h2 => ?_) (fun a h1 h2 => ?_)
      · by_cases e : a = i
        · subst e
          simp (disch := omega) only [zup_e, zup_ak]
          refine ⟨?_, trivial, trivial⟩
          unfold stA sSun
          rw [if_pos hrain]
          omega
        · simp (disch := omega) only [zup_j, zup_ak]
          exact hp a h1 (by omega)
      · simp (disch := omega) only [zup_j, zup_ak]
        exact hq a (by omega) h2
    · rw [if_neg hrain] at hr
      refine ⟨by first | decide | omega, ⟨by first | decide | omega, by first | decide | omega⟩, by first | decide | omega, by first | decide | omega, by first | decide | omega, ⟨by first | decide | omega, by first | decide | omega⟩, by first | decide | omega, ⟨by first | decide | omega, by first | decide | omega⟩, by first | decide | omega, by first | decide | omega, ⟨by first | decide | omega, by first | decide | omega⟩, by first | decide | omega, by first | decide | omega, ⟨by first | decide | omega, by first | decide | omega⟩, ⟨by first | decide | omega, by first | decide | omega⟩, by first | decide | omega, ⟨by first | decide | omega, by first | decide | omega⟩, ⟨fun q1 => ⟨⟨by first | decide | omega, by first | decide | omega⟩, ?_⟩, fun q2 => ⟨by first | decide | omega, by first | decide | omega, by first | decide | omega, ⟨by first | decide | omega, by first | decide | omega⟩, by first | decide | omega, by first | decide | omega, ⟨by first | decide | omega, by first | decide | omega⟩, by first | decide | omega, by first | decide | omega, ⟨by first | decide | omega, by first | decide | omega⟩, by first | decide | omega, ?_⟩⟩⟩
      try (any_goals (exfalso; omega))
      refine c_Sk_sunOn hk (hSK _) hc.1 (by omega) (by omega) (by omega) (fun v2 g1 g2 => ?_)
      have hsun := snOk_S (S := S) (cH c) (i / wC W) (i % wC W) (cS c i)
      have es : sSun W (sSn S) (kR S) c i = sSn S (cH c) (i / wC W) (i % wC W) (cS c i) * wT W (3 * cS c i) := by
        unfold sSun
        rw [if_neg hrain]
      have m1 := Int.mul_nonneg hsun.1 ht.1.1
      have m2 : sSn S (cH c) (i / wC W) (i % wC W) (cS c i) * wT W (3 * cS c i) ≤ 9 * 9 := Int.mul_le_mul hsun.2 ht.1.2 ht.1.1 (by omega)
      have e1 : v2 (o + 1) = (zupd (zupd (zupd v (o + 8) i (sGiv W c i)) (o + 2) i (sGiv W c i)) (o + 1) i (cW c i - sGiv W c i)) (o + 1) := g1 _ (by unfold fK; omega)
      have e3 : v2 (o + 3) = v (o + 3) := by rw [g1 _ (by unfold fK; omega)]; simp (disch := omega) only [zup_a]
      show _
      simp (disch := omega) only [e1, e3, zup_e, eS]
      refine ⟨by first | decide | omega, by first | decide | omega, ⟨by first | decide | omega, by first | decide | omega⟩, by first | decide | omega, by first | decide | omega, by first | decide | omega, ⟨by first | decide | omega, by first | decide | omega⟩, by first | decide | omega, ?_⟩
      refine n_st hw' hW' (WL_fr (fun b q1 q2 => by rw [g1 b (by unfold fK; omega), zup_a (by omega), zup_a (by omega), zup_a (by omega)]) hl') ⟨cb1, cb2⟩ (by omega) ?_
      rw [Int.add_zero, ← es]
      rw [← es] at m1 m2
      refine ⟨⟨by first | decide | omega, by first | decide | omega⟩, ⟨by first | decide | omega, by first | decide | omega⟩, by first | decide | omega, ⟨by first | decide | omega, by first | decide | omega⟩, ⟨by first | decide | omega, by first | decide | omega⟩, ?_⟩
      refine st_A ho hw' hW' hl hc ⟨o1, o2, o3⟩ hk (by rw [if_neg hrain]; exact hr) K m (by omega) (by omega) (fun b q1 q2 q3 q4 => ?_) (SK_fk hk (fun b q1 q2 => zup_a (by omega)) g2) (fun a h1 h2 => ?_) (fun a h1 h2 => ?_)
      · rw [zup_a q2, g1 b q1]
        exact frame _ b q1 q2 q3 q4
      · have e2 : v2 (o + 2) = (zupd (zupd (zupd v (o + 8) i (sGiv W c i)) (o + 2) i (sGiv W c i)) (o + 1) i (cW c i - sGiv W c i)) (o + 2) := g1 _ (by unfold fK; omega)
        have e8 : v2 (o + 8) = (zupd (zupd (zupd v (o + 8) i (sGiv W c i)) (o + 2) i (sGiv W c i)) (o + 1) i (cW c i - sGiv W c i)) (o + 8) := g1 _ (by unfold fK; omega)
        by_cases e : a = i
        · subst e
          simp (disch := omega) only [e2, e8, zup_e, zup_ak]
          refine ⟨?_, trivial, trivial⟩
          unfold stA
          omega
        · simp (disch := omega) only [e1, e2, e8, zup_j, zup_ak]
          exact hp a h1 (by omega)
      · simp (disch := omega) only [e1, zup_j, zup_ak]
        exact hq a (by omega) h2
/-- what has come from those beside it -/
def stB (W : zWl) (c : zCo) (a : Int) (n : Nat) : Int := zsm (fun x => if adj (wC W) a x then sGiv W c x / 4 else 0) n
theorem stB_b {W : zWl} {c : zCo} {a : Int} (hW : Wok W) (hc : Cok W c) (n : Nat) (hn : (n : Int) ≤ wN W) : 0 ≤ stB W c a n ∧ stB W c a n ≤ 24 * n :=
  zsm_b (k := 24) n (fun i h1 h2 => by
    have := sGiv_b hW hc h1 (by omega)
    split <;> omega)
theorem stA_b {W : zWl} {sn : zSn} {rn : Int} {c : zCo} {a : Int} (hs : snOk sn) (hW : Wok W) (hc : Cok W c) (h0 : 0 ≤ a) (h1 : a < wN W) : 0 ≤ stA W sn rn c a ∧ stA W sn rn c a ≤ 180 := by
  have g1 := sGiv_b hW hc h0 h1
  have g2 := sSun_b (rn := rn) hs hW hc h0 h1
  have q := hc.2.1 a h0 h1
  have w := hW.2.2.2.2.2.2.2.2.2.1 (cS c a) q.1.1 q.1.2
  unfold stA
  omega
theorem st_B {o w rr : Int} {W : zWl} {S : zSk} {c : zCo} {v0 : zH} {QX : Nat → zH → Prop} (ho : zco o) (hw : zwo w) (hW : Wok W) (hl : WL v0 w W) (hc : Cok W c) (hk : Sok S)
    (hG : ∀ a : Int, 0 ≤ a → a < wN W → v0 (o + 8) a = sGiv W c a)
    (K : ∀ v' : zH, (∀ b, b ≠ o + 1 → b ≠ o + 2 → v' b = v0 b) → (∀ a : Int, 0 ≤ a → a < wN W → v' (o + 1) a = stA W (sSn S) (kR S) c a + sNb W (fun x => sGiv W c x / 4) a ∧ v' (o + 2) a = sGiv W c a - sGiv W c a / 4 * sCnt W a) → zJ l G 1 (d + 4) h_Co_step k_Co_step 115 Q QX 103 [(2, o), (2, w), (3, 0), (0, rr), (0, 0), (3, 0), (3, 0)] [] v' 115) :
    ∀ (m : Nat) {i : Nat} {v : zH}, (i : Int) + m = wN W → (∀ b, b ≠ o + 1 → b ≠ o + 2 → v b = v0 b) → (∀ a : Int, 0 ≤ a → a < wN W → v (o + 1) a = stA W (sSn S) (kR S) c a + stB W c a i ∧ v (o + 2) a = if a < i then sGiv W c a - sGiv W c a / 4 * sCnt W a else sGiv W c a) →
    zJ l G 1 (d + 4) h_Co_step k_Co_step 115 Q QX 78 [(2, o), (2, w), (3, 0), (0, rr), (0, (i : Int)), (3, 0), (3, 0)] [] v 115
  | 0, i, v, hi, hf, hp => by
    obtain ⟨w0, w1, w3, w5, ⟨w7, w7'⟩, ⟨w8, w8'⟩, ⟨w9, w9'⟩, ⟨w10, w10'⟩, ⟨w11, w11'⟩, ⟨w12, w12'⟩⟩ := zwo_f hw
    have hl' : WL v w W := WL_fr (fun a h1 h2 => hf a (by omega) (by omega)) hl
    refine zgo ck_Co_step 300 78 _ _ _ _ rfl (sg_Co_step_78 ?_)
    rw [hl'.2.2.1]
    refine ⟨w0, fun _ => K v hf (fun a h1 h2 => ?_), fun q => absurd q (by omega)⟩
    obtain ⟨p1, p2⟩ := hp a h1 h2
    have e : i = (wN W).toNat := by omega
    rw [if_pos (by omega)] at p2
    refine ⟨?_, p2⟩
    rw [p1, e]
    rfl
  | m + 1, i, v, hi, hf, hp => by
    have hl' : WL v w W := WL_fr (fun a h1 h2 => hf a (by omega) (by omega)) hl
    have hiN : (i : Int) < wN W := by omega
    have hN := hW.2.2.2.1
    have hg := hG i (by omega) hiN
    rw [← hf (o + 8) (by omega) (by omega)] at hg
    have eG := sGiv_b hW hc (a := i) (by omega) hiN
    obtain ⟨p1, p2⟩ := hp i (by omega) hiN
    have hC := sCnt_b hW (a := i) (by omega) hiN
    have m1 : 0 ≤ sGiv W c i / 4 * sCnt W i := Int.mul_nonneg (by omega) hC.1
    have m2 : sGiv W c i / 4 * sCnt W i ≤ 24 * 4 := Int.mul_le_mul (by omega) hC.2 hC.1 (by omega)
    rw [if_neg (by omega)] at p2
    have hN3 := hl'.2.2.1
    have ho' := ho
    have hw' := hw
    obtain ⟨c0, ⟨c1, c1'⟩, ⟨c2, c2'⟩, ⟨c3, c3'⟩, ⟨c4, c4'⟩, ⟨c5, c5'⟩, ⟨c6, c6'⟩, ⟨c7, c7'⟩, ⟨c8, c8'⟩⟩ := zco_f ho
    obtain ⟨w0, w1, w3, w5, ⟨w7, w7'⟩, ⟨w8, w8'⟩, ⟨w9, w9'⟩, ⟨w10, w10'⟩, ⟨w11, w11'⟩, ⟨w12, w12'⟩⟩ := zwo_f hw
    refine zgo ck_Co_step 300 78 _ _ _ _ rfl (sg_Co_step_78 ?_)
    rw [hN3, hg, p2, ztd eG.1]
    refine ⟨by first | decide | omega, ⟨fun q1 => ?_, fun q2 => ⟨by first | decide | omega, by first | decide | omega, ⟨by first | decide | omega, by first | decide | omega⟩, by first | decide | omega, by first | decide | omega, ⟨by first | decide | omega, by first | decide | omega⟩, by first | decide | omega, ?_⟩⟩⟩
    try (any_goals (exfalso; omega))
    refine c_Co_share ho' hw' hW hl' ⟨by omega, hiN⟩ (by omega) (fun x h1 h2 => ?_) (fun v1 g1 g2 => ?_)
    · rw [(hp x h1 h2).1]
      have := stB_b (a := x) hW hc i (by omega)
      have := stA_b (rn := kR S) snOk_S hW hc (a := x) (sn := sSn S) h1 h2
      omega
    · refine ⟨⟨by first | decide | omega, by first | decide | omega⟩, by first | decide | omega, ⟨by first | decide | omega, by first | decide | omega⟩, ⟨by first | decide | omega, by first | decide | omega⟩, ?_⟩
      refine st_B ho' hw' hW hl hc hk hG K m (i := i + 1) (by omega) (fun b q1 q2 => ?_) (fun a h1 h2 => ?_)
      · rw [zup_a q2, g1 b q1]
        exact hf b q1 q2
      · rw [zup_ak (by omega), g2 a h1 h2]
        obtain ⟨p3, p4⟩ := hp a h1 h2
        refine ⟨?_, ?_⟩
        · rw [p3, adj_comm (a := (i : Int))]
          show _ = stA W (sSn S) (kR S) c a + (stB W c a i + if adj (wC W) a i then sGiv W c i / 4 else 0)
          omega
        · by_cases e : a = i
          · subst e
            rw [zup_s, if_pos (by omega)]
          · rw [zup_j e, g1 _ (by omega), p4]
            by_cases q : a < (i : Int)
            · rw [if_pos q, if_pos (by omega)]
            · rw [if_neg q, if_neg (by omega)]
def stC (W : zWl) (c : zCo) (a : Int) (n : Nat) : Int := zsm (sOv1 W c a) n
theorem stC_b {W : zWl} {c : zCo} {a : Int} (hW : Wok W) (n : Nat) (hn : (n : Int) ≤ wO W) : 0 ≤ stC W c a n ∧ stC W c a n ≤ 20 * n :=
  zsm_b (k := 20) n (fun i h1 h2 => sOv1_b hW h1 (by omega))
theorem oc_b {W : zWl} {k : Int} (hW : Wok W) (h0 : 0 ≤ k) (h1 : k < wO W) : 0 ≤ oc W k ∧ oc W k < wN W := by
  obtain ⟨W1, W2, W3, W4, W5, W6, W7, W8, W9, WT, WV, WZ, WG⟩ := hW
  obtain ⟨v1, v2, -⟩ := WV k h0 h1
  unfold oc
  rw [W3]
  have m1 : (wV W (5 * k) + 1) * wC W ≤ wR W * wC W := Int.mul_le_mul_of_nonneg_right (by omega) W2.1
  have m2 : (wV W (5 * k) + 1) * wC W = wV W (5 * k) * wC W + wC W := by rw [Int.add_mul, Int.one_mul]
  have m3 : 0 ≤ wV W (5 * k) * wC W := Int.mul_nonneg v1.1 W2.1
  omega
/-- an hour's last round but one: the ovens -/
theorem st_C {o w rr : Int} {W : zWl} {S : zSk} {c : zCo} {v0 : zH} {QX : Nat → zH → Prop} {f0 : Int → Int} (ho : zco o) (hw : zwo w) (hW : Wok W) (hl : WL v0 w W) (hc : Cok W c) (hk : Sok S)
    (hO : CO v0 o W c ∨ (v0 o 8 = cH c ∧ ∀ k : Int, 0 ≤ k → k < wO W → v0 (o + 4) k = cF c k ∧ v0 (o + 5) k = cU c k)) (hf0 : ∀ a : Int, 0 ≤ a → a < wN W → 0 ≤ f0 a ∧ f0 a ≤ 1000)
    (K : ∀ v' : zH, (∀ b, b ≠ o + 1 → v' b = v0 b) → (∀ a : Int, 0 ≤ a → a < wN W → v' (o + 1) a = f0 a + sOv W c a) → zC l G 1 (d + 3) h_Co_settle [(2, o), (0, rr), (2, w)] v' 115 (fun _ v1 => zCL o = 0 ∧ zI ((v1 o 8) + 1) ∧ zCL o = 0 ∧ Q 0 (zupd v1 o 8 ((v1 o 8) + 1)))) :
    ∀ (m : Nat) {i : Nat} {v : zH}, (i : Int) + m = wO W → (∀ b, b ≠ o + 1 → v b = v0 b) → (∀ a : Int, 0 ≤ a → a < wN W → v (o + 1) a = f0 a + stC W c a i) →
    zJ l G 1 (d + 4) h_Co_step k_Co_step 115 Q QX 103 [(2, o), (2, w), (3, 0), (0, rr), (0, (i : Int)), (3, 0), (3, 0)] [] v 115
  | 0, i, v, hi, hf, hp => by
    obtain ⟨w0, w1, w3, w5, ⟨w7, w7'⟩, ⟨w8, w8'⟩, ⟨w9, w9'⟩, ⟨w10, w10'⟩, ⟨w11, w11'⟩, ⟨w12, w12'⟩⟩ := zwo_f hw
    have c0 := (zco_f ho).1
    have hl' : WL v w W := WL_fr (fun a h1 h2 => hf a (by omega)) hl
    refine zgo ck_Co_step 300 103 _ _ _ _ rfl (sg_Co_step_103 ?_)
    rw [hl'.2.2.2.2.1]
    refine ⟨w0, w3, fun _ => ⟨c0, K v hf (fun a h1 h2 => ?_)⟩, fun q => absurd q (by omega)⟩
    have e : i = (wO W).toNat := by omega
    rw [hp a h1 h2, e]
    rfl
  | m + 1, i, v, hi, hf, hp => by
    have hl' : WL v w W := WL_fr (fun a h1 h2 => hf a (by omega)) hl
    have hiN : (i : Int) < wO W := by omega
    have hN := hW.2.2.2.1
    have hO3 := hW.2.2.2.2.2.2.2.1
    have hoc := oc_b hW (k := i) (by omega) hiN
    have hv5 := hW.2.2.2.2.2.2.2.2.2.2.1 i (by omega) hiN
    have hO' : CO v0 o W c ∨ (v0 o 8 = cH c ∧ ∀ k : Int, 0 ≤ k → k < wO W → v0 (o + 4) k = cF c k ∧ v0 (o + 5) k = cU c k) := hO
    have o3 : v0 o 8 = cH c ∧ ∀ k : Int, 0 ≤ k → k < wO W → v0 (o + 4) k = cF c k ∧ v0 (o + 5) k = cU c k := by
      rcases hO with q | q
      · exact ⟨q.1, q.2.2⟩
      · exact q
    have eH : v o 8 = cH c := by rw [hf o (by omega)]; exact o3.1
    have eF : v (o + 4) i = cF c i := by rw [hf _ (by omega)]; exact (o3.2 i (by omega) hiN).1
    have eU : v (o + 5) i = cU c i := by rw [hf _ (by omega)]; exact (o3.2 i (by omega) hiN).2
    have hocb := oc_b hW (k := i) (by omega) hiN
    have hN3 := hl'.2.2.1
    have hN5 := hl'.2.2.2.2.1
    have hN2 := hl'.2.1
    have hcc := zco_f ho
    have hC0 := hc.1
    have mb : 0 ≤ wV W (5 * i) * wC W ∧ wV W (5 * i) * wC W ≤ 4 * 6 := ⟨Int.mul_nonneg hv5.1.1 hW.2.1.1, Int.mul_le_mul (by have := hW.1; omega) hW.2.1.2 hW.2.1.1 (by omega)⟩
    have hCC := hW.2.1
    have eoc : wV W (5 * i) * wC W + wV W (5 * i + 1) = oc W i := rfl
    have ho' := ho
    have hw' := hw
    have next : ∀ v' : zH, (∀ b, b ≠ o + 1 → v' b = v b) → (∀ a : Int, 0 ≤ a → a < wN W → v' (o + 1) a = v (o + 1) a + sOv1 W c a i) → zJ l G 1 (d + 4) h_Co_step k_Co_step 115 Q QX 103 [(2, o), (2, w), (3, 0), (0, rr), (0, (i : Int) + 1), (3, 0), (3, 0)] [] v' 115 := by
      intro v' g1 g2
      refine st_C ho' hw' hW hl hc hk hO' hf0 K m (i := i + 1) (by omega) (fun b q => (g1 b q).trans (hf b q)) (fun a h1 h2 => ?_)
      rw [g2 a h1 h2, hp a h1 h2]
      show _ = f0 a + (stC W c a i + sOv1 W c a i)
      omega
    obtain ⟨c0, ⟨c1, c1'⟩, ⟨c2, c2'⟩, ⟨c3, c3'⟩, ⟨c4, c4'⟩, ⟨c5, c5'⟩, ⟨c6, c6'⟩, ⟨c7, c7'⟩, ⟨c8, c8'⟩⟩ := zco_f ho
    obtain ⟨w0, w1, w3, w5, ⟨w7, w7'⟩, ⟨w8, w8'⟩, ⟨w9, w9'⟩, ⟨w10, w10'⟩, ⟨w11, w11'⟩, ⟨w12, w12'⟩⟩ := zwo_f hw
    refine zgo ck_Co_step 300 103 _ _ _ _ rfl (sg_Co_step_103 ?_)
    rw [hN5]
    refine ⟨w0, w3, fun q => absurd q (by omega), fun _ => ⟨w0, w3, ?_⟩⟩
    refine n_ov hw' hW hl' ⟨by omega, hiN⟩ (by omega) ?_
    rw [Int.add_zero]
    show _
    rw [hN2]
    refine ⟨w0, ⟨by omega, by omega⟩, w0, w3, ?_⟩
    refine n_ov hw' hW hl' ⟨by omega, hiN⟩ (by omega) ?_
    rw [eoc]
    refine ⟨⟨by omega, by omega⟩, c0, ?_⟩
    refine c2_Co_burns hcc (by omega) (by omega) ?_
    rw [eH, eF, eU]
    have eb : (if (if cF c i ≤ cU c i then cF c i ≤ cH c % 24 ∧ cH c % 24 < cU c i else cF c i ≤ cH c % 24 ∨ cH c % 24 < cU c i) then (1 : Int) else 0) = if sBurn (cF c i) (cU c i) (cH c) then 1 else 0 := by
      unfold sBurn
      split <;> simp
    rw [eb]
    by_cases hb : sBurn (cF c i) (cU c i) (cH c) = true
    · rw [if_pos hb]
      refine ⟨fun q => absurd q (by omega), fun _ => ⟨fun q => absurd q (by omega), fun _ => ⟨w0, ?_⟩⟩⟩
      rw [hN3]
      refine ⟨fun q => absurd q (by omega), fun _ => ⟨w0, w3, ?_⟩⟩
      refine n_ov hw' hW hl' ⟨by omega, hiN⟩ (by omega) ?_
      have fb := hf0 (oc W i) hocb.1 hocb.2
      have cb := stC_b (c := c) (a := oc W i) hW i (by omega)
      have ep := hp (oc W i) hocb.1 hocb.2
      refine ⟨c0, c1, ⟨by omega, by omega⟩, ⟨by omega, by omega⟩, c1, ⟨by omega, by omega⟩, c0, ?_⟩
      rw [ztd (by omega)]
      refine c_Co_share ho' hw' hW (WL_fr (fun b q1 q2 => zup_a (by omega)) hl') hocb (by omega) (fun x h1 h2 => ?_) (fun v1 g1 g2 => ?_)
      · have fb := hf0 x h1 h2
        have cb := stC_b (c := c) (a := x) hW i (by omega)
        have ep := hp x h1 h2
        by_cases e : x = oc W i
        · rw [zup_e rfl e]; omega
        · rw [zup_j e]; omega
      · refine ⟨⟨by omega, by omega⟩, next v1 (fun b q => (g1 b q).trans (zup_a q)) (fun a h1 h2 => ?_)⟩
        rw [g2 a h1 h2]
        have eo : sOv1 W c a i = (if oc W i = a then wV W (5 * i + 4) else if adj (wC W) (oc W i) a then wV W (5 * i + 4) / 2 else 0) := by
          unfold sOv1
          rw [if_pos hb]
        rw [eo]
        by_cases e : a = oc W i
        · have na : adj (wC W) (oc W i) a = false := by
            rw [← Bool.not_eq_true, adj_iff, e]
            omega
          rw [zup_e rfl e, if_pos e.symm, na, e]
          simp
        · rw [zup_j e, if_neg (show ¬ oc W i = a from fun q => e q.symm)]
    · rw [if_neg hb]
      refine ⟨fun _ => ⟨⟨by omega, by omega⟩, next v (fun _ _ => rfl) (fun a h1 h2 => ?_)⟩, fun q => absurd rfl q⟩
      unfold sOv1
      rw [if_neg hb]
      omega
/-- settling -/
def stR (rain : Bool) (x : Int) : Int := if rain then max 0 (x - 2) else x
theorem se_loop {o w rr : Int} {W : zWl} {c : zCo} {v0 : zH} {QX : Nat → zH → Prop} {f g : Int → Int} {rain : Bool} (ho : zco o) (hw : zwo w) (hW : Wok W) (hl : WL v0 w W) (hr : rr = if rain then 1 else 0)
    (hc : Cok W c) (hs : ∀ a : Int, 0 ≤ a → a < wN W → v0 (o + 3) a = cS c a) (hf : ∀ a : Int, 0 ≤ a → a < wN W → (0 ≤ f a ∧ f a ≤ 3000) ∧ 0 ≤ g a ∧ g a ≤ 3000)
    (K : ∀ v' : zH, (∀ b, b ≠ o + 1 → b ≠ o + 2 → v' b = v0 b) → (∀ a : Int, 0 ≤ a → a < wN W → v' (o + 1) a = stR rain (f a) - max 0 (stR rain (f a) - wT W (3 * cS c a + 1)) ∧ v' (o + 2) a = g a + max 0 (stR rain (f a) - wT W (3 * cS c a + 1))) → Q 0 v') :
    ∀ (m : Nat) {i : Int} {v : zH}, 0 ≤ i → i + m = wN W → (∀ b, b ≠ o + 1 → b ≠ o + 2 → v b = v0 b) → (∀ a : Int, 0 ≤ a → a < wN W → v (o + 1) a = (if a < i then stR rain (f a) - max 0 (stR rain (f a) - wT W (3 * cS c a + 1)) else f a) ∧ v (o + 2) a = if a < i then g a + max 0 (stR rain (f a) - wT W (3 * cS c a + 1)) else g a) →
    zJ l G 1 (d + 2) h_Co_settle k_Co_settle 115 Q QX 2 [(2, o), (0, rr), (2, w), (0, i), (3, 0)] [] v 115
  | 0, i, v, h0, hi, hfr, hp => by
    obtain ⟨w0, w1, w3, w5, ⟨w7, w7'⟩, ⟨w8, w8'⟩, ⟨w9, w9'⟩, ⟨w10, w10'⟩, ⟨w11, w11'⟩, ⟨w12, w12'⟩⟩ := zwo_f hw
    have hl' : WL v w W := WL_fr (fun a h1 h2 => hfr a (by omega) (by omega)) hl
    refine zgo ck_Co_settle 300 2 _ _ _ _ rfl (sg_Co_settle_2 ?_)
    rw [hl'.2.2.1]
    refine ⟨w0, fun _ => K v hfr (fun a h1 h2 => ?_), fun q => absurd q (by omega)⟩
    have := hp a h1 h2
    rw [if_pos (by omega), if_pos (by omega)] at this
    exact this
  | m + 1, i, v, h0, hi, hfr, hp => by
    have hl' : WL v w W := WL_fr (fun a h1 h2 => hfr a (by omega) (by omega)) hl
    have hiN : i < wN W := by omega
    have hN := hW.2.2.2.1
    have hN3 := hl'.2.2.1
    obtain ⟨cb, -⟩ := hc.2.1 i h0 hiN
    have ht := hW.2.2.2.2.2.2.2.2.2.1 (cS c i) cb.1 cb.2
    have eS : v (o + 3) i = cS c i := by rw [hfr _ (by omega) (by omega)]; exact hs i h0 hiN
    obtain ⟨p1, p2⟩ := hp i h0 hiN
    rw [if_neg (by omega)] at p1 p2
    obtain ⟨fb, gb⟩ := hf i h0 hiN
    have ho' := ho
    have hw' := hw
    have next : ∀ v' : zH, (∀ b, b ≠ o + 1 → b ≠ o + 2 → v' b = v b) → (∀ a : Int, a ≠ i → v' (o + 1) a = v (o + 1) a ∧ v' (o + 2) a = v (o + 2) a) → v' (o + 1) i = stR rain (f i) - max 0 (stR rain (f i) - wT W (3 * cS c i + 1)) → v' (o + 2) i = g i + max 0 (stR rain (f i) - wT W (3 * cS c i + 1)) →
        zJ l G 1 (d + 2) h_Co_settle k_Co_settle 115 Q QX 2 [(2, o), (0, rr), (2, w), (0, i + 1), (3, 0)] [] v' 115 := by
      intro v' g1 g2 g3 g4
      refine se_loop ho' hw' hW hl hr hc hs hf K m (by omega) (by omega) (fun b q1 q2 => (g1 b q1 q2).trans (hfr b q1 q2)) (fun a h1 h2 => ?_)
      by_cases e : a = i
      · subst e
        rw [if_pos (by omega), if_pos (by omega)]
        exact ⟨g3, g4⟩
      · obtain ⟨e1, e2⟩ := g2 a e
        rw [e1, e2]
        have := hp a h1 h2
        by_cases q : a < i
        · rw [if_pos q, if_pos q] at this
          rw [if_pos (by omega), if_pos (by omega)]
          exact this
        · rw [if_neg q, if_neg q] at this
          rw [if_neg (by omega), if_neg (by omega)]
          exact this
    obtain ⟨c0, ⟨c1, c1'⟩, ⟨c2, c2'⟩, ⟨c3, c3'⟩, ⟨c4, c4'⟩, ⟨c5, c5'⟩, ⟨c6, c6'⟩, ⟨c7, c7'⟩, ⟨c8, c8'⟩⟩ := zco_f ho
    obtain ⟨w0, w1, w3, w5, ⟨w7, w7'⟩, ⟨w8, w8'⟩, ⟨w9, w9'⟩, ⟨w10, w10'⟩, ⟨w11, w11'⟩, ⟨w12, w12'⟩⟩ := zwo_f hw
    refine zgo ck_Co_settle 300 2 _ _ _ _ rfl (sg_Co_settle_2 ?_)
    rw [hN3]
    simp (disch := omega) only [zup_e, zup_ak, zup_j, eS, p1, p2]
    refine ⟨w0, fun q => absurd q (by omega), fun _ => ?_⟩
    by_cases hrn : rain = true
    · rw [if_pos hrn] at hr
      have er : ∀ x : Int, stR rain x = max 0 (x - 2) := fun x => if_pos hrn
      simp only [er] at next
      refine ⟨fun q => absurd q (by omega), fun _ => ⟨c0, c0, c1, ⟨by omega, by omega⟩, ⟨by omega, by omega⟩, c1, ⟨by omega, by omega⟩, c0, c1, ⟨by omega, by omega⟩, w0, c0, c3, ⟨by omega, by omega⟩, w1, ?_⟩⟩
      refine n_st hw' hW (WL_fr (fun b q1 q2 => zup_a (by omega)) hl') cb (by omega) ?_
      show _
      simp (disch := omega) only [zup_e, zup_ak, zup_j, p2]
      refine ⟨⟨by first | decide | omega, by first | decide | omega⟩, ⟨fun q1 => ⟨⟨by first | decide | omega, by first | decide | omega⟩, ?_⟩, fun q2 => ⟨by first | decide | omega, by first | decide | omega, ⟨by first | decide | omega, by first | decide | omega⟩, ⟨by first | decide | omega, by first | decide | omega⟩, by first | decide | omega, ⟨by first | decide | omega, by first | decide | omega⟩, by first | decide | omega, by first | decide | omega, ⟨by first | decide | omega, by first | decide | omega⟩, ⟨by first | decide | omega, by first | decide | omega⟩, by first | decide | omega, ⟨by first | decide | omega, by first | decide | omega⟩, ⟨by first | decide | omega, by first | decide | omega⟩, ?_⟩⟩⟩
      try (any_goals (exfalso; omega))
      · refine next _ (fun b q1 q2 => zup_a q1) (fun a ha => ⟨zup_j ha, zup_ak (by omega)⟩) ?_ ?_
        · rw [zup_e rfl rfl]; omega
        · rw [zup_ak (by omega), p2]; omega
      · refine next _ (fun b q1 q2 => by rw [zup_a q1, zup_a q2, zup_a q1]) (fun a ha => ⟨by rw [zup_j ha, zup_ak (by omega), zup_j ha], by rw [zup_ak (by omega), zup_j ha, zup_ak (by omega)]⟩) ?_ ?_
        · rw [zup_e rfl rfl]; omega
        · rw [zup_ak (by omega), zup_e rfl rfl]; omega
    · rw [if_neg hrn] at hr
      have er : ∀ x : Int, stR rain x = x := fun x => if_neg hrn
      simp only [er] at next
      refine ⟨fun _ => ⟨c0, c1, ⟨by omega, by omega⟩, w0, c0, c3, ⟨by omega, by omega⟩, w1, ?_⟩, fun q => absurd hr q⟩
      refine n_st hw' hW hl' cb (by omega) ?_
      show _
      simp (disch := omega) only [zup_e, zup_ak, zup_j, p1, p2]
      refine ⟨⟨by first | decide | omega, by first | decide | omega⟩, ⟨fun q1 => ⟨⟨by first | decide | omega, by first | decide | omega⟩, ?_⟩, fun q2 => ⟨by first | decide | omega, by first | decide | omega, ⟨by first | decide | omega, by first | decide | omega⟩, ⟨by first | decide | omega, by first | decide | omega⟩, by first | decide | omega, ⟨by first | decide | omega, by first | decide | omega⟩, by first | decide | omega, by first | decide | omega, ⟨by first | decide | omega, by first | decide | omega⟩, ⟨by first | decide | omega, by first | decide | omega⟩, by first | decide | omega, ⟨by first | decide | omega, by first | decide | omega⟩, ⟨by first | decide | omega, by first | decide | omega⟩, ?_⟩⟩⟩
      try (any_goals (exfalso; omega))
      · refine next _ (fun b q1 q2 => rfl) (fun a ha => ⟨rfl, rfl⟩) ?_ ?_
        · rw [p1]; omega
        · rw [p2]; omega
      · refine next _ (fun b q1 q2 => by rw [zup_a q1, zup_a q2]) (fun a ha => ⟨by rw [zup_j ha, zup_ak (by omega)], by rw [zup_ak (by omega), zup_j ha]⟩) ?_ ?_
        · rw [zup_e rfl rfl]; omega
        · rw [zup_ak (by omega), zup_e rfl rfl]; omega
theorem c_Co_step {o w : Int} {W : zWl} {S : zSk} {c : zCo} (ho : zco o) (hw : zwo w) (hW : Wok W) (hl : WL v w W) (hc : Cok W c) (hO : CO v o W c) (hk : Sok S) (hS : SK v S)
    (K : ∀ v' : zH, (∀ b, fK b → b ≠ o → b ≠ o + 1 → b ≠ o + 2 → b ≠ o + 8 → v' b = v b) → SK v' S → CO v' o W (sStep W (sSn S) (kR S) c) → (∀ a : Int, 0 ≤ a → a < wN W → v' (o + 2) a = sFelt W (sSn S) (kR S) c a) → Q 0 v') : zC l G 1 (d + 4) h_Co_step [(2, o), (2, w), (2, 5)] v 115 Q := by
  have c0 := (zco_f ho).1
  have hN := hW.2.2.2.1
  have hC := hc.1
  refine zC_at ok_Co_step ck_Co_step rfl rfl (sg_Co_step_0 ?_)
  refine ⟨by first | decide | omega, by first | decide | omega, ?_⟩
  have eH := hO.1
  refine c_Sk_rainsAt hS (by rw [eH]; omega) ?_
  rw [eH]
  refine st_A ho hw hW hl hc hO hk rfl (fun v1 a1 a2 a3 => ?_) (wN W).toNat (by omega) (by omega) (fun _ _ _ _ _ => rfl) hS (fun a h1 h2 => absurd h1 (by omega)) (fun a h1 h2 => (hO.2.1 a h1 h2).1)
  have hl1 : WL v1 w W := WL_fr (fun a h1 h2 => a1 a (by unfold fK; omega) (by omega) (by omega) (by omega)) hl
  refine st_B ho hw hW hl1 hc hk (fun a h1 h2 => (a3 a h1 h2).2.2) (fun v2 b1 b2 => ?_) (wN W).toNat (i := 0) (by omega) (fun _ _ _ => rfl) (fun a h1 h2 => ⟨?_, ?_⟩)
  · have hl2 : WL v2 w W := WL_fr (fun a h1 h2 => b1 a (by omega) (by omega)) hl1
    have o4 : ∀ k : Int, 0 ≤ k → k < wO W → v2 (o + 4) k = cF c k ∧ v2 (o + 5) k = cU c k := by
      intro k h1 h2
      rw [b1 _ (by omega) (by omega), b1 _ (by omega) (by omega), a1 _ (by unfold fK; omega) (by omega) (by omega) (by omega), a1 _ (by unfold fK; omega) (by omega) (by omega) (by omega)]
      exact hO.2.2 k h1 h2
    have o8 : v2 o 8 = cH c := by
      rw [b1 _ (by omega) (by omega), a1 _ (by unfold fK; omega) (by omega) (by omega) (by omega)]
      exact eH
    have o3 : ∀ a : Int, 0 ≤ a → a < wN W → v2 (o + 3) a = cS c a := by
      intro a h1 h2
      rw [b1 _ (by omega) (by omega), a1 _ (by unfold fK; omega) (by omega) (by omega) (by omega)]
      exact (hO.2.1 a h1 h2).2
    have bf : ∀ a : Int, 0 ≤ a → a < wN W → 0 ≤ stA W (sSn S) (kR S) c a + sNb W (fun x => sGiv W c x / 4) a ∧ stA W (sSn S) (kR S) c a + sNb W (fun x => sGiv W c x / 4) a ≤ 800 := by
      intro a h1 h2
      have q1 := stA_b (rn := kR S) snOk_S hW hc (a := a) (sn := sSn S) h1 h2
      have q2 := sNb_b (a := a) (k := 24) (f := fun o => sGiv W c o / 4) (by omega) hW (fun o h0 h1 => by
        have := sGiv_b hW hc h0 h1
        omega)
      omega
    refine st_C ho hw hW hl2 hc hk (Or.inr ⟨o8, o4⟩) (f0 := fun a => stA W (sSn S) (kR S) c a + sNb W (fun x => sGiv W c x / 4) a) (fun a h1 h2 => by have := bf a h1 h2; omega) (fun v3 e1 e2 => ?_) (wO W).toNat (i := 0) (by have := hW.2.2.2.2.2.2.2.1; omega) (fun _ _ => rfl) (fun a h1 h2 => ?_)
    · have hl3 : WL v3 w W := WL_fr (fun a h1 h2 => e1 a (by omega)) hl2
      refine zC_at ok_Co_settle ck_Co_settle rfl rfl (sg_Co_settle_0 ?_)
      refine se_loop ho hw hW hl3 rfl hc (fun a h1 h2 => by rw [e1 _ (by omega)]; exact o3 a h1 h2) (f := fun a => stA W (sSn S) (kR S) c a + sNb W (fun x => sGiv W c x / 4) a + sOv W c a) (g := fun a => sGiv W c a - sGiv W c a / 4 * sCnt W a) (fun a h1 h2 => ?_) (fun v4 g1 g2 => ?_) (wN W).toNat (by omega) (by omega) (fun _ _ _ => rfl) (fun a h1 h2 => ⟨?_, ?_⟩)
      · have q1 := bf a h1 h2
        have q2 := sOv_b (c := c) (a := a) hW
        have q3 := sGiv_b hW hc h1 h2
        have q4 := sCnt_b hW h1 h2
        have m1 : sGiv W c a / 4 * sCnt W a ≤ sGiv W c a / 4 * 4 := Int.mul_le_mul_of_nonneg_left q4.2 (by omega)
        have m2 : 0 ≤ sGiv W c a / 4 * sCnt W a := Int.mul_nonneg (by omega) q4.1
        omega
      · have e8 : v4 o 8 = cH c := by rw [g1 _ (by omega) (by omega), e1 _ (by omega)]; exact o8
        show _
        rw [e8]
        refine ⟨c0, ⟨by omega, by omega⟩, c0, ?_⟩
        refine K _ (fun b q0 q1 q2 q3 q4 => ?_) (SK_fk hk (fun b q1 q2 => ?_) a2) ⟨zup_e rfl rfl, fun a h1 h2 => ⟨?_, ?_⟩, fun k h1 h2 => ?_⟩ (fun a h1 h2 => ?_)
        · rw [zup_a q1, g1 b q2 q3, e1 b q2, b1 b q2 q3, a1 b q0 q2 q3 q4]
        · rw [zup_a (by omega), g1 b (by omega) (by omega), e1 b (by omega), b1 b (by omega) (by omega)]
        · rw [zup_a (by omega), (g2 a h1 h2).1]
          rfl
        · rw [zup_a (by omega), g1 _ (by omega) (by omega), e1 _ (by omega)]
          exact o3 a h1 h2
        · rw [zup_a (by omega), zup_a (by omega), g1 _ (by omega) (by omega), g1 _ (by omega) (by omega), e1 _ (by omega), e1 _ (by omega)]
          exact o4 k h1 h2
        · rw [zup_a (by omega), (g2 a h1 h2).2]
          rfl
      · rw [if_neg (by omega)]
        exact e2 a h1 h2
      · rw [if_neg (by omega), e1 _ (by omega)]
        exact (b2 a h1 h2).2
    · show _ = _ + zsm _ 0
      rw [zsm_0, Int.add_zero]
      exact (b2 a h1 h2).1
  · show _ = _ + zsm _ 0
    rw [zsm_0, Int.add_zero]
    exact (a3 a h1 h2).1
  · rw [if_neg (by omega)]
    exact (a3 a h1 h2).2.1
end
