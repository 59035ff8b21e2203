/-! THE REFERENCE: hours that go by, undone; the tape -/
theorem byt_sF : ∀ k : Fin 4, ((nI (8 * k.val) &&& 31).toBitVec.smod 32).toNat = 8 * k.val ∧ (((nI (8 * k.val)).toUInt32 &&& Int32.toUInt32 31).toBitVec % 32).toNat = 8 * k.val := by decide +kernel
theorem byt_s {w : Int} {k : Nat} (hk : k < 4) : zand (zshr w ((8 * k : Nat) : Int)) 255 = byt w ((8 * k : Nat) : Int) := by
  unfold byt zand zshr zushr
  rw [Int32.ofInt_toInt, Int32.ofInt_toInt]
  congr 1
  have e255 : Int32.ofInt 255 = nI 255 := zb_o 255
  rw [zb_o, e255]
  refine b_ext (fun i hi => ?_)
  have ha : ∀ x : Int32, bt (x &&& nI 255) i = (bt x i && bt (nI 255) i) := fun x => by
    unfold bt
    rw [Int32.toBitVec_and, BitVec.getLsbD_and]
  rw [ha, ha]
  by_cases h8 : i < 8
  · rw [b_sshr (8 * k) (by omega) _ hi, b_ushr (8 * k) (by omega), if_pos (by omega)]
  · have : bt (nI 255) i = false := by
      rw [zb_bt hi]
      exact Nat.testBit_lt_two_pow (Nat.lt_of_lt_of_le (by decide : 255 < 2 ^ 8) (Nat.pow_le_pow_right (by omega) (by omega)))
    rw [this, Bool.and_false, Bool.and_false]
/-- the k-th byte of five words -/
def fB (a b c e f : Int) (k : Int) : Int := byt (if k < 4 then a else if k < 8 then b else if k < 12 then c else if k < 16 then e else f) (24 - 8 * (k % 4))
theorem fB_s {w k : Int} (hk : 0 ≤ k) : zand (zshr w (24 - 8 * (k % 4))) 255 = byt w (24 - 8 * (k % 4)) := by
  have h := byt_s (w := w) (k := (3 - (k % 4)).toNat) (by omega)
  have e : ((8 * (3 - (k % 4)).toNat : Nat) : Int) = 24 - 8 * (k % 4) := by omega
  rw [e] at h
  exact h
theorem fB_cnt {a b c e f : Int} : zsm (fun k => bn1 (fB a b c e f k)) 20 = bin a + bin b + bin c + bin e + bin f := by
  have h : zsm (fun k => bn1 (fB a b c e f k)) 20 = 0 + bn1 (byt a 24) + bn1 (byt a 16) + bn1 (byt a 8) + bn1 (byt a 0) + bn1 (byt b 24) + bn1 (byt b 16) + bn1 (byt b 8) + bn1 (byt b 0) + bn1 (byt c 24) + bn1 (byt c 16) + bn1 (byt c 8) + bn1 (byt c 0) + bn1 (byt e 24) + bn1 (byt e 16) + bn1 (byt e 8) + bn1 (byt e 0) + bn1 (byt f 24) + bn1 (byt f 16) + bn1 (byt f 8) + bn1 (byt f 0) := rfl
  rw [h]
  unfold bin
  omega
theorem fd4 {X : zTp} {g : Int → Int} {w : Int} {n : Nat} (h0 : g ((n : Nat) : Int) = byt w 24) (h1 : g ((n + 1 : Nat) : Int) = byt w 16) (h2 : g ((n + 2 : Nat) : Int) = byt w 8) (h3 : g ((n + 3 : Nat) : Int) = byt w 0) : fd (fun X k => tAp X (g k)) X (n + 4) = tAw (fd (fun X k => tAp X (g k)) X n) w := by
  rw [fd_s, fd_s, fd_s, fd_s, h0, h1, h2, h3]
  rfl
theorem fB_app {X : zTp} {a b c e f : Int} : fd (fun X k => tAp X (fB a b c e f k)) X 20 = tAw (tAw (tAw (tAw (tAw X a) b) c) e) f := by
  have e4 := fd4 (X := X) (g := fB a b c e f) (w := f) (n := 16) rfl rfl rfl rfl
  have e3 := fd4 (X := X) (g := fB a b c e f) (w := e) (n := 12) rfl rfl rfl rfl
  have e2 := fd4 (X := X) (g := fB a b c e f) (w := c) (n := 8) rfl rfl rfl rfl
  have e1 := fd4 (X := X) (g := fB a b c e f) (w := b) (n := 4) rfl rfl rfl rfl
  have e0 := fd4 (X := X) (g := fB a b c e f) (w := a) (n := 0) rfl rfl rfl rfl
  exact e4.trans (congrArg (fun Y => tAw Y f) (e3.trans (congrArg (fun Y => tAw Y e) (e2.trans (congrArg (fun Y => tAw Y c) (e1.trans (congrArg (fun Y => tAw Y b) e0)))))))
theorem fB_b {a b c e f k : Int} : 0 ≤ fB a b c e f k ∧ fB a b c e f k ≤ 255 := byt_b _ _
section
variable {l : Launch} {G : zG} {d : Nat} {v : zH} {Q : Int → zH → Prop}
theorem c_M_byteOf {a b c e f k : Int} (hk : 0 ≤ k ∧ k < 20) (K : Q (fB a b c e f k) v) : zC l G 1 (d + 1) h_M_byteOf [(0, a), (0, b), (0, c), (0, e), (0, f), (0, k)] v 115 Q := by
  have tm : k.tmod 4 = k % 4 := ztm hk.1
  unfold fB at K
  refine zC_at ok_M_byteOf ck_M_byteOf rfl rfl (sg_M_byteOf_0 ?_)
  try simp (disch := omega) only [zup_e, zup_ak, zup_j, Int.zero_add, Int.reduceAdd, mz78, mz79, mz80, mz81, mz82, mz83, mz84, mz85, mz86, mz87, mz88, mz89, mz90, mz91, mz92, mz93, mz94, mz95, mz96, mz97, mz98, mz99, mz100, mz101, mz102, mz103, mz104, mz105, mz106, mz107, mz108, mz109, mz110, mz111, mz112, mz113, tm]
  refine ⟨fun q1 => ⟨fun q2 => ⟨fun q3 => ⟨fun q4 => ⟨⟨by first | decide | omega | contradiction | exact absurd trivial (by assumption), by first | decide | omega | contradiction | exact absurd trivial (by assumption)⟩, ⟨by first | decide | omega | contradiction | exact absurd trivial (by assumption), by first | decide | omega | contradiction | exact absurd trivial (by assumption)⟩, ?_⟩, fun q5 => ⟨⟨by first | decide | omega | contradiction | exact absurd trivial (by assumption), by first | decide | omega | contradiction | exact absurd trivial (by assumption)⟩, ⟨by first | decide | omega | contradiction | exact absurd trivial (by assumption), by first | decide | omega | contradiction | exact absurd trivial (by assumption)⟩, ?_⟩⟩, fun q6 => ⟨⟨by first | decide | omega | contradiction | exact absurd trivial (by assumption), by first | decide | omega | contradiction | exact absurd trivial (by assumption)⟩, ⟨by first | decide | omega | contradiction | exact absurd trivial (by assumption), by first | decide | omega | contradiction | exact absurd trivial (by assumption)⟩, ?_⟩⟩, fun q7 => ⟨⟨by first | decide | omega | contradiction | exact absurd trivial (by assumption), by first | decide | omega | contradiction | exact absurd trivial (by assumption)⟩, ⟨by first | decide | omega | contradiction | exact absurd trivial (by assumption), by first | decide | omega | contradiction | exact absurd trivial (by assumption)⟩, ?_⟩⟩, fun q8 => ⟨⟨by first | decide | omega | contradiction | exact absurd trivial (by assumption), by first | decide | omega | contradiction | exact absurd trivial (by assumption)⟩, ⟨by first | decide | omega | contradiction | exact absurd trivial (by assumption), by first | decide | omega | contradiction | exact absurd trivial (by assumption)⟩, ?_⟩⟩
  try (any_goals (exfalso; first | omega | exact absurd trivial (by assumption)))
  · rw [if_neg (by omega), if_neg (by omega), if_neg (by omega), if_neg (by omega), ← fB_s hk.1] at K
    exact K
  · rw [if_neg (by omega), if_neg (by omega), if_neg (by omega), if_pos (by omega), ← fB_s hk.1] at K
    exact K
  · rw [if_neg (by omega), if_neg (by omega), if_pos (by omega), ← fB_s hk.1] at K
    exact K
  · rw [if_neg (by omega), if_pos (by omega), ← fB_s hk.1] at K
    exact K
  · rw [if_pos (by omega), ← fB_s hk.1] at K
    exact K
theorem fem_33 {a b c e f : Int} {X : zTp} {v0 : zH} {QX : Nat → zH → Prop} (ht : tOk X) (hn : X.2 + zsm (fun k => bn1 (fB a b c e f k)) 20 ≤ 160) (K : ∀ v' : zH, (∀ b : Int, b ≠ 77 → b ≠ 78 → v' b = v0 b) → (∀ j : Int, j ≠ 2 → v' 77 j = v0 77 j) → TM v' (fd (fun X k => tAp X (fB a b c e f k)) X 20) → Q (fd (fun X k => tAp X (fB a b c e f k)) X 20).2 v') :
    ∀ (m i : Nat) {v : zH}, i + m = 20 → (∀ b : Int, b ≠ 77 → b ≠ 78 → v b = v0 b) → (∀ j : Int, j ≠ 2 → v 77 j = v0 77 j) → TM v (fd (fun X k => tAp X (fB a b c e f k)) X i) → (fd (fun X k => tAp X (fB a b c e f k)) X i).2 = X.2 + zsm (fun k => bn1 (fB a b c e f k)) i → zJ l G 1 (d + 2) h_M_feed k_M_feed 115 Q QX 33 [(2, 77), (0, a), (0, b), (0, c), (0, e), (0, f), (3, 0), (0, (i : Int)), (3, 0)] [] v 115
  | m, i, v, hi, hF, hj, hT, h2 => by
    have mono : ∀ p q : Nat, zsm (fun k => bn1 (fB a b c e f k)) p ≤ zsm (fun k => bn1 (fB a b c e f k)) (p + q) := fun p q => by
      induction q with
      | zero => exact Int.le_refl _
      | succ q ih =>
        rw [← Nat.add_assoc, zsm_s]
        have := bn1_b (fB a b c e f ((p + q : Nat) : Int))
        omega
    have pos := (zsm_b (f := fun k => bn1 (fB a b c e f k)) (k := 1) i (fun j _ _ => bn1_b _)).1
    have h0 := ht.1
    match m, hi with
    | 0, hi =>
      have eI : i = 20 := by omega
      subst eI
      have K := K v hF hj hT
      rw [← hT.1] at K
      refine zgo ck_M_feed 300 33 _ _ _ _ rfl (sg_M_feed_33 ?_)
      try simp (disch := omega) only [zup_e, zup_ak, zup_j, Int.zero_add, Int.reduceAdd, mz78, mz79, mz80, mz81, mz82, mz83, mz84, mz85, mz86, mz87, mz88, mz89, mz90, mz91, mz92, mz93, mz94, mz95, mz96, mz97, mz98, mz99, mz100, mz101, mz102, mz103, mz104, mz105, mz106, mz107, mz108, mz109, mz110, mz111, mz112, mz113]
      refine ⟨fun q1 => ⟨by first | decide | omega | contradiction | exact absurd trivial (by assumption), ?_⟩, fun q2 => ?_⟩
      try (any_goals (exfalso; first | omega | exact absurd trivial (by assumption)))
      exact K
    | m + 1, hi =>
      have g := fun {v : zH} => fem_33 (v := v) (QX := QX) ht hn K m (i + 1) (by omega)
      have mi := mono (i + 1) m
      rw [show i + 1 + m = 20 by omega] at mi
      have n1 := tAp_n (X := fd (fun X k => tAp X (fB a b c e f k)) X i) (b := fB a b c e f i)
      rw [fd_s, zsm_s] at g
      rw [zsm_s] at mi
      have hb1 := bn1_b (fB a b c e f i)
      generalize fd (fun X k => tAp X (fB a b c e f k)) X i = Y at g hT h2 n1
      have e2 := hT.1
      refine zgo ck_M_feed 300 33 _ _ _ _ rfl (sg_M_feed_33 ?_)
      try simp (disch := omega) only [zup_e, zup_ak, zup_j, Int.zero_add, Int.reduceAdd, mz78, mz79, mz80, mz81, mz82, mz83, mz84, mz85, mz86, mz87, mz88, mz89, mz90, mz91, mz92, mz93, mz94, mz95, mz96, mz97, mz98, mz99, mz100, mz101, mz102, mz103, mz104, mz105, mz106, mz107, mz108, mz109, mz110, mz111, mz112, mz113]
      refine ⟨fun q1 => ⟨by first | decide | omega | contradiction | exact absurd trivial (by assumption), ?_⟩, fun q2 => ?_⟩
      try (any_goals (exfalso; first | omega | exact absurd trivial (by assumption)))
      refine c_M_byteOf (by omega) ?_
      by_cases hz : fB a b c e f i = 0
      · have eA : tAp Y (fB a b c e f i) = Y := if_pos hz
        have b0 : bn1 (fB a b c e f i) = 0 := if_pos hz
        rw [eA, b0] at g
        have k0 := g hF hj hT (by omega)
        refine ⟨fun q1 => ⟨⟨by first | decide | omega | contradiction | exact absurd trivial (by assumption), by first | decide | omega | contradiction | exact absurd trivial (by assumption)⟩, ?_⟩, fun q2 => ⟨by first | decide | omega | contradiction | exact absurd trivial (by assumption), by first | decide | omega | contradiction | exact absurd trivial (by assumption), by first | decide | omega | contradiction | exact absurd trivial (by assumption), ⟨by first | decide | omega | contradiction | exact absurd trivial (by assumption), by first | decide | omega | contradiction | exact absurd trivial (by assumption)⟩, by first | decide | omega | contradiction | exact absurd trivial (by assumption), ⟨by first | decide | omega | contradiction | exact absurd trivial (by assumption), by first | decide | omega | contradiction | exact absurd trivial (by assumption)⟩, by first | decide | omega | contradiction | exact absurd trivial (by assumption), ⟨by first | decide | omega | contradiction | exact absurd trivial (by assumption), by first | decide | omega | contradiction | exact absurd trivial (by assumption)⟩, ?_⟩⟩
        try (any_goals (exfalso; first | omega | exact absurd trivial (by assumption)))
        exact k0
      · have eA : tAp Y (fB a b c e f i) = (upf Y.1 Y.2 (fB a b c e f i), Y.2 + 1) := if_neg hz
        have b1 : bn1 (fB a b c e f i) = 1 := if_neg hz
        rw [b1] at mi
        rw [eA, b1] at g
        have k0 := g (v := zupd (zupd v 78 Y.2 (fB a b c e f i)) 77 2 (Y.2 + 1)) (fun b b1 b2 => by rw [zup_a b1, zup_a b2]; exact hF b b1 b2) (fun j q => by rw [zup_j q, zup_a (by omega)]; exact hj j q) ⟨zup_s, fun j j1 j2 => by
          have j2 : j < Y.2 + 1 := j2
          rw [zup_ak (by omega)]
          show _ = upf Y.1 Y.2 (fB a b c e f i) j
          by_cases q : j = Y.2
          · rw [q, upf_s, zup_s]
          · rw [upf_n q, zup_j q]
            exact hT.2 j j1 (by omega)⟩ (by show Y.2 + 1 = _; omega)
        show _
        simp (disch := omega) only [e2, zup_ak]
        refine ⟨fun q1 => ⟨⟨by first | decide | omega | contradiction | exact absurd trivial (by assumption), by first | decide | omega | contradiction | exact absurd trivial (by assumption)⟩, ?_⟩, fun q2 => ⟨by first | decide | omega | contradiction | exact absurd trivial (by assumption), by first | decide | omega | contradiction | exact absurd trivial (by assumption), by first | decide | omega | contradiction | exact absurd trivial (by assumption), ⟨by first | decide | omega | contradiction | exact absurd trivial (by assumption), by first | decide | omega | contradiction | exact absurd trivial (by assumption)⟩, by first | decide | omega | contradiction | exact absurd trivial (by assumption), ⟨by first | decide | omega | contradiction | exact absurd trivial (by assumption), by first | decide | omega | contradiction | exact absurd trivial (by assumption)⟩, by first | decide | omega | contradiction | exact absurd trivial (by assumption), ⟨by first | decide | omega | contradiction | exact absurd trivial (by assumption), by first | decide | omega | contradiction | exact absurd trivial (by assumption)⟩, ?_⟩⟩
        try (any_goals (exfalso; first | omega | exact absurd trivial (by assumption)))
        exact k0
theorem fem_4 {a b c e f : Int} {X : zTp} {v0 : zH} {QX : Nat → zH → Prop} (ht : tOk X) (hX : TM v X) (K0 : ¬ X.2 + zsm (fun k => bn1 (fB a b c e f k)) 20 ≤ 160 → Q (-1) v)
    (K : X.2 + zsm (fun k => bn1 (fB a b c e f k)) 20 ≤ 160 → zJ l G 1 (d + 2) h_M_feed k_M_feed 115 Q QX 33 [(2, 77), (0, a), (0, b), (0, c), (0, e), (0, f), (3, 0), (0, 0), (3, 0)] [] v 115) :
    ∀ (m i : Nat), i + m = 20 → zJ l G 1 (d + 2) h_M_feed k_M_feed 115 Q QX 4 [(2, 77), (0, a), (0, b), (0, c), (0, e), (0, f), (0, zsm (fun k => bn1 (fB a b c e f k)) i), (0, (i : Int)), (3, 0)] [] v 115
  | m, i, hi => by
    have zb := zsm_b (f := fun k => bn1 (fB a b c e f k)) (k := 1) i (fun j _ _ => bn1_b _)
    have e2 := hX.1
    have h0 := ht.1
    match m, hi with
    | 0, hi =>
      have eI : i = 20 := by omega
      subst eI
      generalize zsm (fun k => bn1 (fB a b c e f k)) 20 = N at K0 K zb ⊢
      by_cases hn : X.2 + N ≤ 160
      · have k0 := K hn
        refine zgo ck_M_feed 300 4 _ _ _ _ rfl (sg_M_feed_4 ?_)
        try simp (disch := omega) only [zup_e, zup_ak, zup_j, Int.zero_add, Int.reduceAdd, mz78, mz79, mz80, mz81, mz82, mz83, mz84, mz85, mz86, mz87, mz88, mz89, mz90, mz91, mz92, mz93, mz94, mz95, mz96, mz97, mz98, mz99, mz100, mz101, mz102, mz103, mz104, mz105, mz106, mz107, mz108, mz109, mz110, mz111, mz112, mz113, e2]
        refine ⟨fun q1 => ⟨by first | decide | omega | contradiction | exact absurd trivial (by assumption), ⟨by first | decide | omega | contradiction | exact absurd trivial (by assumption), by first | decide | omega | contradiction | exact absurd trivial (by assumption)⟩, ⟨fun q2 => ?_, fun q3 => ?_⟩⟩, fun q4 => ?_⟩
        try (any_goals (exfalso; first | omega | exact absurd trivial (by assumption)))
        exact k0
      · have k0 := K0 hn
        refine zgo ck_M_feed 300 4 _ _ _ _ rfl (sg_M_feed_4 ?_)
        try simp (disch := omega) only [zup_e, zup_ak, zup_j, Int.zero_add, Int.reduceAdd, mz78, mz79, mz80, mz81, mz82, mz83, mz84, mz85, mz86, mz87, mz88, mz89, mz90, mz91, mz92, mz93, mz94, mz95, mz96, mz97, mz98, mz99, mz100, mz101, mz102, mz103, mz104, mz105, mz106, mz107, mz108, mz109, mz110, mz111, mz112, mz113, e2]
        refine ⟨fun q1 => ⟨by first | decide | omega | contradiction | exact absurd trivial (by assumption), ⟨by first | decide | omega | contradiction | exact absurd trivial (by assumption), by first | decide | omega | contradiction | exact absurd trivial (by assumption)⟩, ⟨fun q2 => ?_, fun q3 => ?_⟩⟩, fun q4 => ?_⟩
        try (any_goals (exfalso; first | omega | exact absurd trivial (by assumption)))
        exact k0
    | m + 1, hi =>
      have g := fem_4 (v0 := v0) (QX := QX) ht hX K0 K m (i + 1) (by omega)
      rw [zsm_s] at g
      generalize zsm (fun k => bn1 (fB a b c e f k)) i = N at g zb ⊢
      refine zgo ck_M_feed 300 4 _ _ _ _ rfl (sg_M_feed_4 ?_)
      try simp (disch := omega) only [zup_e, zup_ak, zup_j, Int.zero_add, Int.reduceAdd, mz78, mz79, mz80, mz81, mz82, mz83, mz84, mz85, mz86, mz87, mz88, mz89, mz90, mz91, mz92, mz93, mz94, mz95, mz96, mz97, mz98, mz99, mz100, mz101, mz102, mz103, mz104, mz105, mz106, mz107, mz108, mz109, mz110, mz111, mz112, mz113]
      refine ⟨fun q1 => ⟨by first | decide | omega | contradiction | exact absurd trivial (by assumption), ⟨by first | decide | omega | contradiction | exact absurd trivial (by assumption), by first | decide | omega | contradiction | exact absurd trivial (by assumption)⟩, ⟨fun q2 => ?_, fun q3 => ?_⟩⟩, fun q4 => ?_⟩
      try (any_goals (exfalso; first | omega | exact absurd trivial (by assumption)))
      refine c_M_byteOf (by omega) ?_
      by_cases hz : fB a b c e f i = 0
      · have b0 : bn1 (fB a b c e f i) = 0 := if_pos hz
        rw [b0] at g
        refine ⟨fun q1 => ⟨⟨by first | decide | omega | contradiction | exact absurd trivial (by assumption), by first | decide | omega | contradiction | exact absurd trivial (by assumption)⟩, ⟨by first | decide | omega | contradiction | exact absurd trivial (by assumption), by first | decide | omega | contradiction | exact absurd trivial (by assumption)⟩, ?_⟩, fun q2 => ⟨⟨by first | decide | omega | contradiction | exact absurd trivial (by assumption), by first | decide | omega | contradiction | exact absurd trivial (by assumption)⟩, ⟨by first | decide | omega | contradiction | exact absurd trivial (by assumption), by first | decide | omega | contradiction | exact absurd trivial (by assumption)⟩, ?_⟩⟩
        try (any_goals (exfalso; first | omega | exact absurd trivial (by assumption)))
        exact g
      · have b1 : bn1 (fB a b c e f i) = 1 := if_neg hz
        rw [b1] at g
        refine ⟨fun q1 => ⟨⟨by first | decide | omega | contradiction | exact absurd trivial (by assumption), by first | decide | omega | contradiction | exact absurd trivial (by assumption)⟩, ⟨by first | decide | omega | contradiction | exact absurd trivial (by assumption), by first | decide | omega | contradiction | exact absurd trivial (by assumption)⟩, ?_⟩, fun q2 => ⟨⟨by first | decide | omega | contradiction | exact absurd trivial (by assumption), by first | decide | omega | contradiction | exact absurd trivial (by assumption)⟩, ⟨by first | decide | omega | contradiction | exact absurd trivial (by assumption), by first | decide | omega | contradiction | exact absurd trivial (by assumption)⟩, ?_⟩⟩
        try (any_goals (exfalso; first | omega | exact absurd trivial (by assumption)))
        exact g
theorem c_M_feed {a b c e f : Int} {s : zSg} {B : Int} (hA : AM v s) (hG : GOk s B) (K : ∀ v' : zH, Fm v v' → AM v' (gFeedX (gX s) a b c e f, gW s, gC s, gS s, gL s, gI s, gT s) → Q (aFeed (gX s) a b c e f) v') : zC l G 1 (d + 2) h_M_feed [(2, 77), (0, a), (0, b), (0, c), (0, e), (0, f)] v 115 Q := by
  obtain ⟨⟨⟨hW, hM, hc, hO, hk, hS⟩, q2', q3'⟩, a2, a3, a4, a5⟩ := id hA
  have ht := hG.2.2.2.1
  have ec := fB_cnt (a := a) (b := b) (c := c) (e := e) (f := f)
  unfold aFeed gFeedX at K
  refine zC_at ok_M_feed ck_M_feed rfl rfl (sg_M_feed_0 ?_)
  try simp (disch := omega) only [zup_e, zup_ak, zup_j, Int.zero_add, Int.reduceAdd, mz78, mz79, mz80, mz81, mz82, mz83, mz84, mz85, mz86, mz87, mz88, mz89, mz90, mz91, mz92, mz93, mz94, mz95, mz96, mz97, mz98, mz99, mz100, mz101, mz102, mz103, mz104, mz105, mz106, mz107, mz108, mz109, mz110, mz111, mz112, mz113]
  refine fem_4 (v0 := v) (X := gX s) ht a2 (fun h => ?_) (fun h => ?_) 20 0 (by omega)
  · rw [ec] at h
    rw [if_neg (by omega), if_neg (by omega)] at K
    exact K v Fm_rf hA
  · refine fem_33 (X := gX s) (v0 := v) ht h (fun v1 f1 f2 f3 => ?_) 20 0 (by omega) (fun _ _ _ => rfl) (fun _ _ => rfl) a2 (by show (gX s).2 = (gX s).2 + 0; omega)
    rw [ec] at h
    rw [if_pos (by omega), if_pos (by omega)] at K
    rw [fB_app] at f3 ⊢
    have n5 : (tAw (tAw (tAw (tAw (tAw (gX s) a) b) c) e) f).2 = (gX s).2 + (bin a + bin b + bin c + bin e + bin f) := by
      rw [tAw_n, tAw_n, tAw_n, tAw_n, tAw_n]
      omega
    rw [n5]
    exact K v1 (fun b q => f1 b (by omega) (by omega)) ⟨⟨MQc_fr (fun b q => f1 b (by omega) (by omega)) (fun j q => f2 j (by omega)) hA.1.1, (f2 39 (by omega)).trans q2', q3'⟩, f3, MPa_fr (f2 46 (by omega)) (f1 102 (by omega) (by omega)) a3, MIm_fr (f2 62 (by omega)) (f2 61 (by omega)) (f1 113 (by omega) (by omega)) a4, MTo_fr (f2 56 (by omega)) (f1 107 (by omega) (by omega)) (f1 108 (by omega) (by omega)) (f1 109 (by omega) (by omega)) a5⟩
-- undone
theorem unm_13 {s : zSg} {B : Int} {f : Int → Int} {r : zPa} {v0 : zH} {QX : Nat → zH → Prop} (hG : GOk s B) (hA : AM v0 s) (hL : gL s = f :: r) (K : ∀ v' : zH, Fm v0 v' → AM v' (gUndo s) → Q (aUndo s) v') :
    ∀ (m i : Nat) {v : zH}, i + m = 36 → (∀ b : Int, b ≠ 77 → b ≠ 97 → v b = v0 b) → (∀ j : Int, j ≠ 46 → v 77 j = v0 77 j) → v 77 46 = r.length → (∀ o : Int, 0 ≤ o → o < i → v 97 o = v0 102 (36 * (r.length : Int) + o)) → zJ l G 1 (d + 2) h_M_undo k_M_undo 115 Q QX 13 [(2, 77), (0, (i : Int))] [] v 115
  | m, i, v, hi, hF, hj, h46, hp => by
    obtain ⟨⟨⟨hW, hM, hc, hO, hk, hS⟩, q2', q3'⟩, a2, a3, a4, a5⟩ := id hA
    obtain ⟨g1, g2, g3, g4, g5, g6, g7, g8, g9⟩ := hG
    unfold gUndo aUndo at K
    rw [hL] at K g7 g8
    obtain ⟨p1, p2, p3⟩ := id a3
    rw [hL] at p1 p2 p3
    rw [List.length_cons] at g7 p1 p2 p3
    match m, hi with
    | 0, hi =>
      have e36 : v 77 36 = cH (gC s) := by rw [hj 36 (by omega)]; exact hO.1
      have hf : ∀ b : Int, b ≠ 77 → b ≠ 97 → (zupd v 77 36 (cH (gC s) - 1)) b = v0 b := fun b q q' => by rw [zup_a q]; exact hF b q q'
      have hj' : ∀ j : Int, j ≠ 36 → j ≠ 46 → (zupd v 77 36 (cH (gC s) - 1)) 77 j = v0 77 j := fun j q q' => by rw [zup_j q]; exact hj j q'
      have fin := K (zupd v 77 36 (cH (gC s) - 1)) (fun b q => hf b (by omega) (by omega)) ⟨⟨⟨hW, MW_fr (fun j _ _ => hj' j (by omega) (by omega)) (hf 93 (by omega) (by omega)) (fun o _ _ => by rw [hf 94 (by omega) (by omega)]; exact ⟨rfl, rfl, rfl⟩) (hf 95 (by omega) (by omega)) hM, Cok_w g2 (g8 f List.mem_cons_self) (by have := hc.1; omega), ⟨zup_s, fun a ha => by
        have h36 := is36 hW ha
        have e := p3 0 f rfl a ha
        rw [hf 96 (by omega) (by omega)]
        refine ⟨?_, (hO.2.1 a ha).2⟩
        rw [zup_a (by omega), hp a h36.1 (by omega)]
        show _ = f (ixn (wC (gW s)) a)
        rw [← e]
        congr 1
        omega, by rw [hj' 39 (by omega) (by omega), hf 94 (by omega) (by omega)]; exact hO.2.2⟩, hk, MS_fr ⟨hj' 13 (by omega) (by omega), hj' 37 (by omega) (by omega), hj' 38 (by omega) (by omega)⟩ (hf 79 (by omega) (by omega)) (hf 80 (by omega) (by omega)) (hf 82 (by omega) (by omega)) (hf 83 (by omega) (by omega)) (hf 84 (by omega) (by omega)) (hf 85 (by omega) (by omega)) hS⟩, (hj' 39 (by omega) (by omega)).trans q2', by show cH (gC s) - 1 ≤ _; omega⟩, TM_fr (hj' 2 (by omega) (by omega)) (hf 78 (by omega) (by omega)) a2, ⟨by rw [zup_j (by omega)]; exact h46, by show r.length ≤ 60; omega, fun n g hg a ha => by
          have e := p3 (n + 1) g (by rw [List.getElem?_cons_succ]; exact hg) a ha
          rw [hf 102 (by omega) (by omega)]
          show v0 102 (36 * ((r.length : Int) - 1 - n) + a) = g (ixn (wC (gW s)) a)
          rw [← e]
          congr 1
          omega⟩, MIm_fr (hj' 62 (by omega) (by omega)) (hj' 61 (by omega) (by omega)) (hf 113 (by omega) (by omega)) a4, MTo_fr (hj' 56 (by omega) (by omega)) (hf 107 (by omega) (by omega)) (hf 108 (by omega) (by omega)) (hf 109 (by omega) (by omega)) a5⟩
      have hcb := hc.1
      refine zgo ck_M_undo 300 13 _ _ _ _ rfl (sg_M_undo_13 ?_)
      try simp (disch := omega) only [zup_e, zup_ak, zup_j, Int.zero_add, Int.reduceAdd, mz78, mz79, mz80, mz81, mz82, mz83, mz84, mz85, mz86, mz87, mz88, mz89, mz90, mz91, mz92, mz93, mz94, mz95, mz96, mz97, mz98, mz99, mz100, mz101, mz102, mz103, mz104, mz105, mz106, mz107, mz108, mz109, mz110, mz111, mz112, mz113, e36]
      refine ⟨fun q1 => ⟨by first | decide | omega | contradiction | exact absurd trivial (by assumption), ⟨by first | decide | omega | contradiction | exact absurd trivial (by assumption), by first | decide | omega | contradiction | exact absurd trivial (by assumption)⟩, by first | decide | omega | contradiction | exact absurd trivial (by assumption), by first | decide | omega | contradiction | exact absurd trivial (by assumption), ?_⟩, fun q2 => ⟨by first | decide | omega | contradiction | exact absurd trivial (by assumption), by first | decide | omega | contradiction | exact absurd trivial (by assumption), by first | decide | omega | contradiction | exact absurd trivial (by assumption), ⟨by first | decide | omega | contradiction | exact absurd trivial (by assumption), by first | decide | omega | contradiction | exact absurd trivial (by assumption)⟩, ⟨by first | decide | omega | contradiction | exact absurd trivial (by assumption), by first | decide | omega | contradiction | exact absurd trivial (by assumption)⟩, by first | decide | omega | contradiction | exact absurd trivial (by assumption), ⟨by first | decide | omega | contradiction | exact absurd trivial (by assumption), by first | decide | omega | contradiction | exact absurd trivial (by assumption)⟩, by first | decide | omega | contradiction | exact absurd trivial (by assumption), ⟨by first | decide | omega | contradiction | exact absurd trivial (by assumption), by first | decide | omega | contradiction | exact absurd trivial (by assumption)⟩, ⟨by first | decide | omega | contradiction | exact absurd trivial (by assumption), by first | decide | omega | contradiction | exact absurd trivial (by assumption)⟩, ?_⟩⟩
      try (any_goals (exfalso; first | omega | exact absurd trivial (by assumption)))
      exact fin
    | m + 1, hi =>
      have e102 : v 102 (36 * (r.length : Int) + i) = v0 102 (36 * (r.length : Int) + i) := by rw [hF 102 (by omega) (by omega)]
      refine zgo ck_M_undo 300 13 _ _ _ _ rfl (sg_M_undo_13 ?_)
      try simp (disch := omega) only [zup_e, zup_ak, zup_j, Int.zero_add, Int.reduceAdd, mz78, mz79, mz80, mz81, mz82, mz83, mz84, mz85, mz86, mz87, mz88, mz89, mz90, mz91, mz92, mz93, mz94, mz95, mz96, mz97, mz98, mz99, mz100, mz101, mz102, mz103, mz104, mz105, mz106, mz107, mz108, mz109, mz110, mz111, mz112, mz113, h46]
      refine ⟨fun q1 => ⟨by first | decide | omega | contradiction | exact absurd trivial (by assumption), ⟨by first | decide | omega | contradiction | exact absurd trivial (by assumption), by first | decide | omega | contradiction | exact absurd trivial (by assumption)⟩, by first | decide | omega | contradiction | exact absurd trivial (by assumption), by first | decide | omega | contradiction | exact absurd trivial (by assumption), ?_⟩, fun q2 => ⟨by first | decide | omega | contradiction | exact absurd trivial (by assumption), by first | decide | omega | contradiction | exact absurd trivial (by assumption), by first | decide | omega | contradiction | exact absurd trivial (by assumption), ⟨by first | decide | omega | contradiction | exact absurd trivial (by assumption), by first | decide | omega | contradiction | exact absurd trivial (by assumption)⟩, ⟨by first | decide | omega | contradiction | exact absurd trivial (by assumption), by first | decide | omega | contradiction | exact absurd trivial (by assumption)⟩, by first | decide | omega | contradiction | exact absurd trivial (by assumption), ⟨by first | decide | omega | contradiction | exact absurd trivial (by assumption), by first | decide | omega | contradiction | exact absurd trivial (by assumption)⟩, by first | decide | omega | contradiction | exact absurd trivial (by assumption), ⟨by first | decide | omega | contradiction | exact absurd trivial (by assumption), by first | decide | omega | contradiction | exact absurd trivial (by assumption)⟩, ⟨by first | decide | omega | contradiction | exact absurd trivial (by assumption), by first | decide | omega | contradiction | exact absurd trivial (by assumption)⟩, ?_⟩⟩
      try (any_goals (exfalso; first | omega | exact absurd trivial (by assumption)))
      refine unm_13 ⟨g1, g2, g3, g4, g5, g6, by rw [hL, List.length_cons]; exact g7, by rw [hL]; exact g8, g9⟩ hA hL (by unfold gUndo aUndo; rw [hL]; exact K) m (i + 1) (by omega) (fun b q q' => (zup_a q').trans (hF b q q')) (fun j q => by rw [zup_a (by omega)]; exact hj j q) (by rw [zup_a (by omega)]; exact h46) (fun o o1 o2 => ?_)
      by_cases e : o = i
      · rw [e, zup_s]
        exact e102
      · rw [zup_j e]
        exact hp o o1 (by omega)
theorem c_M_undo {s : zSg} {B : Int} (hG : GOk s B) (hA : AM v s) (K : ∀ v' : zH, Fm v v' → AM v' (gUndo s) → Q (aUndo s) v') : zC l G 1 (d + 2) h_M_undo [(2, 77)] v 115 Q := by
  have a3 := hA.2.2.1
  have p1 := a3.1
  have p2 := a3.2.1
  cases hL : gL s with
  | nil =>
    unfold gUndo aUndo at K
    rw [hL] at K p1
    have p1 : v 77 46 = 0 := p1
    have fin := K v Fm_rf hA
    refine zC_at ok_M_undo ck_M_undo rfl rfl (sg_M_undo_0 ?_)
    try simp (disch := omega) only [zup_e, zup_ak, zup_j, Int.zero_add, Int.reduceAdd, mz78, mz79, mz80, mz81, mz82, mz83, mz84, mz85, mz86, mz87, mz88, mz89, mz90, mz91, mz92, mz93, mz94, mz95, mz96, mz97, mz98, mz99, mz100, mz101, mz102, mz103, mz104, mz105, mz106, mz107, mz108, mz109, mz110, mz111, mz112, mz113, p1]
    refine ⟨by first | decide | omega | contradiction | exact absurd trivial (by assumption), ⟨fun q1 => ⟨by first | decide | omega | contradiction | exact absurd trivial (by assumption), ⟨by first | decide | omega | contradiction | exact absurd trivial (by assumption), by first | decide | omega | contradiction | exact absurd trivial (by assumption)⟩, by first | decide | omega | contradiction | exact absurd trivial (by assumption), ?_⟩, fun q2 => ?_⟩⟩
    try (any_goals (exfalso; first | omega | exact absurd trivial (by assumption)))
    exact fin
  | cons f r =>
    rw [hL, List.length_cons] at p1 p2
    have p1 : v 77 46 = (r.length : Int) + 1 := by rw [p1]; omega
    have p5 : (r.length : Int) + 1 - 1 = r.length := by omega
    refine zC_at ok_M_undo ck_M_undo rfl rfl (sg_M_undo_0 ?_)
    try simp (disch := omega) only [zup_e, zup_ak, zup_j, Int.zero_add, Int.reduceAdd, mz78, mz79, mz80, mz81, mz82, mz83, mz84, mz85, mz86, mz87, mz88, mz89, mz90, mz91, mz92, mz93, mz94, mz95, mz96, mz97, mz98, mz99, mz100, mz101, mz102, mz103, mz104, mz105, mz106, mz107, mz108, mz109, mz110, mz111, mz112, mz113, p1, p5]
    refine ⟨by first | decide | omega | contradiction | exact absurd trivial (by assumption), ⟨fun q1 => ⟨by first | decide | omega | contradiction | exact absurd trivial (by assumption), ⟨by first | decide | omega | contradiction | exact absurd trivial (by assumption), by first | decide | omega | contradiction | exact absurd trivial (by assumption)⟩, by first | decide | omega | contradiction | exact absurd trivial (by assumption), ?_⟩, fun q2 => ?_⟩⟩
    try (any_goals (exfalso; first | omega | exact absurd trivial (by assumption)))
    exact unm_13 hG hA hL K 36 0 (by omega) (fun b q _ => zup_a q) (fun j q => zup_j q) zup_s (fun o o1 o2 => by omega)
-- hours
theorem hom_40 {W : zWl} {c : zCo} {S : zSk} {L : zPa} {n k : Int} {v0 : zH} {QX : Nat → zH → Prop} (hQ : QM v0 W c S) (hh : cH c < 900000) (hk : 0 ≤ k ∧ k ≤ 1000) (h46 : v0 77 46 = L.length) (hl : L.length ≤ 59) (hP : ∀ (i : Nat) (f : Int → Int), L[i]? = some f → ∀ a : Int, isc (wR W) (wC W) a = true → v0 102 (36 * ((L.length : Int) - 1 - i) + a) = f (ixn (wC W) a))
    (K : ∀ v' : zH, (∀ b : Int, (b < 77 ∨ b = 78 ∨ 103 ≤ b) → v' b = v0 b) → (∀ j : Int, j ≠ 36 → j ≠ 46 → v' 77 j = v0 77 j) → QM v' W (sStep W (sSn S) (kR S) c) S → MPa v' W (cW c :: L) → zJ l G 1 (d + 7) h_M_hours k_M_hours 115 Q QX 8 [(2, 77), (0, n), (0, k + 1), (3, 0)] [] v' 115) :
    ∀ (m i : Nat) {v : zH}, i + m = 36 → (∀ b : Int, b ≠ 102 → v b = v0 b) → (∀ o : Int, 0 ≤ o → o < i → v 102 (36 * (L.length : Int) + o) = v0 97 o) → (∀ j : Int, j < 36 * (L.length : Int) → v 102 j = v0 102 j) → zJ l G 1 (d + 7) h_M_hours k_M_hours 115 Q QX 40 [(2, 77), (0, n), (0, k), (0, (i : Int))] [] v 115
  | m, i, v, hi, hF, hp, hq => by
    obtain ⟨hW, hM, hc, hO, -⟩ := id hQ.1
    have e46 : v 77 46 = L.length := by rw [hF 77 (by omega)]; exact h46
    match m, hi with
    | 0, hi =>
      have hf : ∀ b : Int, b ≠ 77 → b ≠ 102 → (zupd v 77 46 ((L.length : Int) + 1)) b = v0 b := fun b q q' => by rw [zup_a q, hF b q']
      have hj : ∀ j : Int, j ≠ 46 → (zupd v 77 46 ((L.length : Int) + 1)) 77 j = v0 77 j := fun j q => by rw [zup_j q, hF 77 (by omega)]
      have hQ1 : MQc (zupd v 77 46 ((L.length : Int) + 1)) W c S := MQc_fr (fun b q => hf b (by omega) (by omega)) (fun j q => hj j (by omega)) hQ.1
      refine zgo ck_M_hours 300 40 _ _ _ _ rfl (sg_M_hours_40 ?_)
      try simp (disch := omega) only [zup_e, zup_ak, zup_j, Int.zero_add, Int.reduceAdd, mz78, mz79, mz80, mz81, mz82, mz83, mz84, mz85, mz86, mz87, mz88, mz89, mz90, mz91, mz92, mz93, mz94, mz95, mz96, mz97, mz98, mz99, mz100, mz101, mz102, mz103, mz104, mz105, mz106, mz107, mz108, mz109, mz110, mz111, mz112, mz113, e46]
      refine ⟨fun q1 => ⟨by first | decide | omega | contradiction | exact absurd trivial (by assumption), ⟨by first | decide | omega | contradiction | exact absurd trivial (by assumption), by first | decide | omega | contradiction | exact absurd trivial (by assumption)⟩, by first | decide | omega | contradiction | exact absurd trivial (by assumption), by first | decide | omega | contradiction | exact absurd trivial (by assumption), ?_⟩, fun q2 => ⟨by first | decide | omega | contradiction | exact absurd trivial (by assumption), by first | decide | omega | contradiction | exact absurd trivial (by assumption), ⟨by first | decide | omega | contradiction | exact absurd trivial (by assumption), by first | decide | omega | contradiction | exact absurd trivial (by assumption)⟩, ⟨by first | decide | omega | contradiction | exact absurd trivial (by assumption), by first | decide | omega | contradiction | exact absurd trivial (by assumption)⟩, by first | decide | omega | contradiction | exact absurd trivial (by assumption), by first | decide | omega | contradiction | exact absurd trivial (by assumption), ⟨by first | decide | omega | contradiction | exact absurd trivial (by assumption), by first | decide | omega | contradiction | exact absurd trivial (by assumption)⟩, by first | decide | omega | contradiction | exact absurd trivial (by assumption), ⟨by first | decide | omega | contradiction | exact absurd trivial (by assumption), by first | decide | omega | contradiction | exact absurd trivial (by assumption)⟩, ⟨by first | decide | omega | contradiction | exact absurd trivial (by assumption), by first | decide | omega | contradiction | exact absurd trivial (by assumption)⟩, ?_⟩⟩
      try (any_goals (exfalso; first | omega | exact absurd trivial (by assumption)))
      refine c_M_pass hQ1 (by omega) (fun v1 f1 f2 f3 => ?_)
      refine ⟨⟨by first | decide | omega | contradiction | exact absurd trivial (by assumption), by first | decide | omega | contradiction | exact absurd trivial (by assumption)⟩, ?_⟩
      have e102 : v1 102 = v 102 := by rw [f1.1 102 (by omega) (by omega) (by omega) (by omega) (by omega) (by omega) (by omega), zup_a (by omega)]
      refine K v1 (fun b q => by rw [f1.1 b (by omega) (by omega) (by omega) (by omega) (by omega) (by omega) (by omega)]; exact hf b (by omega) (by omega)) (fun j q q' => by rw [f1.2 j q]; exact hj j q') ⟨f2, by rw [f1.2 39 (by omega), hj 39 (by omega)]; exact hQ.2.1, by show cH c + 1 ≤ 900000; omega⟩ ⟨by rw [f1.2 46 (by omega), zup_s, List.length_cons]; omega, by rw [List.length_cons]; omega, fun n g hg a ha => ?_⟩
      have h36 := is36 hW ha
      rw [e102, List.length_cons]
      cases n with
      | zero =>
        have hg : cW c = g := by simpa using hg
        have e := hp a h36.1 (by omega)
        rw [← hg, ← (hO.2.1 a ha).1, ← e]
        congr 1
        omega
      | succ n =>
        rw [List.getElem?_cons_succ] at hg
        have e := hP n g hg a ha
        have hlen : n < L.length := by
          by_cases q : n < L.length
          · exact q
          · rw [List.getElem?_eq_none (by omega)] at hg
            cases hg
        rw [← e, ← hq _ (by omega)]
        congr 1
        omega
    | m + 1, hi =>
      have e97 : v 97 i = v0 97 i := by rw [hF 97 (by omega)]
      refine zgo ck_M_hours 300 40 _ _ _ _ rfl (sg_M_hours_40 ?_)
      try simp (disch := omega) only [zup_e, zup_ak, zup_j, Int.zero_add, Int.reduceAdd, mz78, mz79, mz80, mz81, mz82, mz83, mz84, mz85, mz86, mz87, mz88, mz89, mz90, mz91, mz92, mz93, mz94, mz95, mz96, mz97, mz98, mz99, mz100, mz101, mz102, mz103, mz104, mz105, mz106, mz107, mz108, mz109, mz110, mz111, mz112, mz113, e46]
      refine ⟨fun q1 => ⟨by first | decide | omega | contradiction | exact absurd trivial (by assumption), ⟨by first | decide | omega | contradiction | exact absurd trivial (by assumption), by first | decide | omega | contradiction | exact absurd trivial (by assumption)⟩, by first | decide | omega | contradiction | exact absurd trivial (by assumption), by first | decide | omega | contradiction | exact absurd trivial (by assumption), ?_⟩, fun q2 => ⟨by first | decide | omega | contradiction | exact absurd trivial (by assumption), by first | decide | omega | contradiction | exact absurd trivial (by assumption), ⟨by first | decide | omega | contradiction | exact absurd trivial (by assumption), by first | decide | omega | contradiction | exact absurd trivial (by assumption)⟩, ⟨by first | decide | omega | contradiction | exact absurd trivial (by assumption), by first | decide | omega | contradiction | exact absurd trivial (by assumption)⟩, by first | decide | omega | contradiction | exact absurd trivial (by assumption), by first | decide | omega | contradiction | exact absurd trivial (by assumption), ⟨by first | decide | omega | contradiction | exact absurd trivial (by assumption), by first | decide | omega | contradiction | exact absurd trivial (by assumption)⟩, by first | decide | omega | contradiction | exact absurd trivial (by assumption), ⟨by first | decide | omega | contradiction | exact absurd trivial (by assumption), by first | decide | omega | contradiction | exact absurd trivial (by assumption)⟩, ⟨by first | decide | omega | contradiction | exact absurd trivial (by assumption), by first | decide | omega | contradiction | exact absurd trivial (by assumption)⟩, ?_⟩⟩
      try (any_goals (exfalso; first | omega | exact absurd trivial (by assumption)))
      refine hom_40 hQ hh hk h46 hl hP K m (i + 1) (by omega) (fun b q => (zup_a q).trans (hF b q)) (fun o o1 o2 => ?_) (fun j q => ?_)
      · by_cases e : o = i
        · rw [e, zup_s]
          exact e97
        · rw [zup_j (by omega)]
          exact hp o o1 (by omega)
      · rw [zup_j (by omega)]
        exact hq j q
theorem hom_17 {n k : Int} {v0 : zH} {QX : Nat → zH → Prop} (h46 : v0 77 46 = 60) (K : ∀ v' : zH, (∀ b : Int, b ≠ 77 → b ≠ 102 → v' b = v0 b) → (∀ j : Int, j ≠ 46 → v' 77 j = v0 77 j) → v' 77 46 = 59 → (∀ j : Int, 0 ≤ j → j < 2124 → v' 102 j = v0 102 (j + 36)) → zJ l G 1 (d + 7) h_M_hours k_M_hours 115 Q QX 40 [(2, 77), (0, n), (0, k), (0, 0)] [] v' 115) :
    ∀ (m i : Nat) {v : zH}, 36 + i + m = 2160 → (∀ b : Int, b ≠ 102 → v b = v0 b) → (∀ j : Int, 0 ≤ j → j < i → v 102 j = v0 102 (j + 36)) → (∀ j : Int, (i : Int) ≤ j → v 102 j = v0 102 j) → zJ l G 1 (d + 7) h_M_hours k_M_hours 115 Q QX 17 [(2, 77), (0, n), (0, k), (0, 36 + (i : Int))] [] v 115
  | m, i, v, hi, hF, hp, hq => by
    have e46 : v 77 46 = 60 := by rw [hF 77 (by omega)]; exact h46
    match m, hi with
    | 0, hi =>
      refine zgo ck_M_hours 300 17 _ _ _ _ rfl (sg_M_hours_17 ?_)
      try simp (disch := omega) only [zup_e, zup_ak, zup_j, Int.zero_add, Int.reduceAdd, mz78, mz79, mz80, mz81, mz82, mz83, mz84, mz85, mz86, mz87, mz88, mz89, mz90, mz91, mz92, mz93, mz94, mz95, mz96, mz97, mz98, mz99, mz100, mz101, mz102, mz103, mz104, mz105, mz106, mz107, mz108, mz109, mz110, mz111, mz112, mz113, e46]
      refine ⟨fun q1 => ⟨by first | decide | omega | contradiction | exact absurd trivial (by assumption), ⟨by first | decide | omega | contradiction | exact absurd trivial (by assumption), by first | decide | omega | contradiction | exact absurd trivial (by assumption)⟩, by first | decide | omega | contradiction | exact absurd trivial (by assumption), ?_⟩, fun q2 => ⟨by first | decide | omega | contradiction | exact absurd trivial (by assumption), ⟨by first | decide | omega | contradiction | exact absurd trivial (by assumption), by first | decide | omega | contradiction | exact absurd trivial (by assumption)⟩, by first | decide | omega | contradiction | exact absurd trivial (by assumption), by first | decide | omega | contradiction | exact absurd trivial (by assumption), ⟨by first | decide | omega | contradiction | exact absurd trivial (by assumption), by first | decide | omega | contradiction | exact absurd trivial (by assumption)⟩, by first | decide | omega | contradiction | exact absurd trivial (by assumption), ⟨by first | decide | omega | contradiction | exact absurd trivial (by assumption), by first | decide | omega | contradiction | exact absurd trivial (by assumption)⟩, ⟨by first | decide | omega | contradiction | exact absurd trivial (by assumption), by first | decide | omega | contradiction | exact absurd trivial (by assumption)⟩, ?_⟩⟩
      try (any_goals (exfalso; first | omega | exact absurd trivial (by assumption)))
      exact K _ (fun b q q' => by rw [zup_a q, hF b q']) (fun j q => by rw [zup_j q, hF 77 (by omega)]) zup_s (fun j j1 j2 => by rw [zup_a (by omega)]; exact hp j j1 (by omega))
    | m + 1, hi =>
      have e1 : v 102 (36 + (i : Int)) = v0 102 ((i : Int) + 36) := by
        rw [hq _ (by omega)]
        congr 1
        omega
      have e2 : 36 + (i : Int) - 36 = i := by omega
      have e3 : 36 + (i : Int) + 1 = 36 + ((i + 1 : Nat) : Int) := by omega
      have g := fun {v : zH} => hom_17 (v := v) (QX := QX) h46 K m (i + 1) (by omega)
      rw [← e3] at g
      have k0 := g (v := zupd v 102 i (v 102 (36 + (i : Int)))) (fun b q => (zup_a q).trans (hF b q)) (fun j j1 j2 => by
        by_cases e : j = i
        · rw [e, zup_s]
          exact e1
        · rw [zup_j e]
          exact hp j j1 (by omega)) (fun j j1 => by
        rw [zup_j (by omega)]
        exact hq j (by omega))
      refine zgo ck_M_hours 300 17 _ _ _ _ rfl (sg_M_hours_17 ?_)
      try simp (disch := omega) only [zup_e, zup_ak, zup_j, Int.zero_add, Int.reduceAdd, mz78, mz79, mz80, mz81, mz82, mz83, mz84, mz85, mz86, mz87, mz88, mz89, mz90, mz91, mz92, mz93, mz94, mz95, mz96, mz97, mz98, mz99, mz100, mz101, mz102, mz103, mz104, mz105, mz106, mz107, mz108, mz109, mz110, mz111, mz112, mz113, e2]
      refine ⟨fun q1 => ⟨by first | decide | omega | contradiction | exact absurd trivial (by assumption), ⟨by first | decide | omega | contradiction | exact absurd trivial (by assumption), by first | decide | omega | contradiction | exact absurd trivial (by assumption)⟩, by first | decide | omega | contradiction | exact absurd trivial (by assumption), ?_⟩, fun q2 => ⟨by first | decide | omega | contradiction | exact absurd trivial (by assumption), ⟨by first | decide | omega | contradiction | exact absurd trivial (by assumption), by first | decide | omega | contradiction | exact absurd trivial (by assumption)⟩, by first | decide | omega | contradiction | exact absurd trivial (by assumption), by first | decide | omega | contradiction | exact absurd trivial (by assumption), ⟨by first | decide | omega | contradiction | exact absurd trivial (by assumption), by first | decide | omega | contradiction | exact absurd trivial (by assumption)⟩, by first | decide | omega | contradiction | exact absurd trivial (by assumption), ⟨by first | decide | omega | contradiction | exact absurd trivial (by assumption), by first | decide | omega | contradiction | exact absurd trivial (by assumption)⟩, ⟨by first | decide | omega | contradiction | exact absurd trivial (by assumption), by first | decide | omega | contradiction | exact absurd trivial (by assumption)⟩, ?_⟩⟩
      try (any_goals (exfalso; first | omega | exact absurd trivial (by assumption)))
      exact k0
theorem hom_8 {n : Nat} {W : zWl} {c : zCo} {S : zSk} {L : zPa} {v0 : zH} {QX : Nat → zH → Prop} (hn : n ≤ 72) (hh : cH c + n ≤ 900000)
    (K : ∀ v' : zH, (∀ b : Int, (b < 77 ∨ b = 78 ∨ 103 ≤ b) → v' b = v0 b) → (∀ j : Int, j ≠ 36 → j ≠ 46 → v' 77 j = v0 77 j) → QM v' W (sSt W (sSn S) (kR S) c n) S → MPa v' W (sHr W S c L n) → Q (cH c + n) v') :
    ∀ (m i : Nat) {v : zH}, i + m = n → (∀ b : Int, (b < 77 ∨ b = 78 ∨ 103 ≤ b) → v b = v0 b) → (∀ j : Int, j ≠ 36 → j ≠ 46 → v 77 j = v0 77 j) → QM v W (sSt W (sSn S) (kR S) c i) S → MPa v W (sHr W S c L i) → zJ l G 1 (d + 7) h_M_hours k_M_hours 115 Q QX 8 [(2, 77), (0, (n : Int)), (0, (i : Int)), (3, 0)] [] v 115
  | m, i, v, hi, hF, hj, hQ, hP => by
    have hH := sSt_H (W := W) (sn := sSn S) (rn := kR S) (c := c) i
    have hMO := hQ.1.2.2.2.1
    match m, hi with
    | 0, hi =>
      have e : i = n := by omega
      subst e
      have e36 : v 77 36 = cH c + i := by rw [hMO.1, hH]
      have fin := K v hF hj hQ hP
      refine zgo ck_M_hours 300 8 _ _ _ _ rfl (sg_M_hours_8 ?_)
      try simp (disch := omega) only [zup_e, zup_ak, zup_j, Int.zero_add, Int.reduceAdd, mz78, mz79, mz80, mz81, mz82, mz83, mz84, mz85, mz86, mz87, mz88, mz89, mz90, mz91, mz92, mz93, mz94, mz95, mz96, mz97, mz98, mz99, mz100, mz101, mz102, mz103, mz104, mz105, mz106, mz107, mz108, mz109, mz110, mz111, mz112, mz113, e36]
      refine ⟨fun q1 => ⟨by first | decide | omega | contradiction | exact absurd trivial (by assumption), ?_⟩, fun q2 => ⟨by first | decide | omega | contradiction | exact absurd trivial (by assumption), ⟨fun q3 => ?_, fun q4 => ?_⟩⟩⟩
      try (any_goals (exfalso; first | omega | exact absurd trivial (by assumption)))
      exact fin
    | m + 1, hi =>
      have g := fun {v : zH} => hom_8 (v := v) (QX := QX) hn hh K m (i + 1) (by omega)
      obtain ⟨p1, p2, p3⟩ := hP
      have es : sHr W S c L (i + 1) = cW (sSt W (sSn S) (kR S) c i) :: (sHr W S c L i).take 59 := rfl
      rw [es] at g
      generalize sHr W S c L i = R at g p1 p2 p3
      have g2 : ∀ {v' : zH}, (∀ b : Int, (b < 77 ∨ b = 78 ∨ 103 ≤ b) → v' b = v b) → (∀ j : Int, j ≠ 36 → j ≠ 46 → v' 77 j = v 77 j) → QM v' W (sStep W (sSn S) (kR S) (sSt W (sSn S) (kR S) c i)) S → MPa v' W (cW (sSt W (sSn S) (kR S) c i) :: R.take 59) → zJ l G 1 (d + 7) h_M_hours k_M_hours 115 Q QX 8 [(2, 77), (0, (n : Int)), (0, (i : Int) + 1), (3, 0)] [] v' 115 := fun z1 z2 z3 z4 => g (fun b q => (z1 b q).trans (hF b q)) (fun j q q' => (z2 j q q').trans (hj j q q')) z3 z4
      by_cases hl : R.length = 60
      · have p1' : v 77 46 = 60 := by rw [p1, hl]; rfl
        have e36 : (36 : Int) = 36 + ((0 : Nat) : Int) := by omega
        refine zgo ck_M_hours 300 8 _ _ _ _ rfl (sg_M_hours_8 ?_)
        try simp (disch := omega) only [zup_e, zup_ak, zup_j, Int.zero_add, Int.reduceAdd, mz78, mz79, mz80, mz81, mz82, mz83, mz84, mz85, mz86, mz87, mz88, mz89, mz90, mz91, mz92, mz93, mz94, mz95, mz96, mz97, mz98, mz99, mz100, mz101, mz102, mz103, mz104, mz105, mz106, mz107, mz108, mz109, mz110, mz111, mz112, mz113]
        refine ⟨fun q1 => ⟨by first | decide | omega | contradiction | exact absurd trivial (by assumption), ?_⟩, fun q2 => ⟨by first | decide | omega | contradiction | exact absurd trivial (by assumption), ⟨fun q3 => ?_, fun q4 => ?_⟩⟩⟩
        try (any_goals (exfalso; first | omega | exact absurd trivial (by assumption)))
        rw [e36]
        refine hom_17 (v0 := v) p1' (fun v1 f1 f2 f3 f4 => ?_) 2124 0 (by omega) (fun _ _ => rfl) (fun j j1 j2 => by omega) (fun _ _ => rfl)
        have ht : (R.take 59).length = 59 := by rw [List.length_take]; omega
        refine hom_40 (L := R.take 59) (v0 := v1) ⟨MQc_fr (fun b q => f1 b (by omega) (by omega)) (fun j q => f2 j (by omega)) hQ.1, by rw [f2 39 (by omega)]; exact hQ.2.1, hQ.2.2⟩ (by omega) (by omega) (by rw [f3, ht]; rfl) (by omega) (fun x f hx a ha => ?_) (fun v2 z1 z2 z3 z4 => g2 (fun b q => (z1 b q).trans (f1 b (by omega) (by omega))) (fun j q q' => (z2 j q q').trans (f2 j q')) z3 z4) 36 0 (by omega) (fun _ _ => rfl) (fun o o1 o2 => by omega) (fun _ _ => rfl)
        have h36 := is36 hQ.1.1 ha
        have hx59 : x < 59 := by
          by_cases q : x < 59
          · exact q
          · rw [List.getElem?_eq_none (by omega)] at hx
            cases hx
        rw [List.getElem?_take, if_pos hx59] at hx
        have e := p3 x f hx a ha
        rw [ht, f4 _ (by omega) (by omega), ← e, hl]
        congr 1
        omega
      · have ht : R.take 59 = R := List.take_of_length_le (by omega)
        rw [ht] at g2
        refine zgo ck_M_hours 300 8 _ _ _ _ rfl (sg_M_hours_8 ?_)
        try simp (disch := omega) only [zup_e, zup_ak, zup_j, Int.zero_add, Int.reduceAdd, mz78, mz79, mz80, mz81, mz82, mz83, mz84, mz85, mz86, mz87, mz88, mz89, mz90, mz91, mz92, mz93, mz94, mz95, mz96, mz97, mz98, mz99, mz100, mz101, mz102, mz103, mz104, mz105, mz106, mz107, mz108, mz109, mz110, mz111, mz112, mz113, p1]
        refine ⟨fun q1 => ⟨by first | decide | omega | contradiction | exact absurd trivial (by assumption), ?_⟩, fun q2 => ⟨by first | decide | omega | contradiction | exact absurd trivial (by assumption), ⟨fun q3 => ?_, fun q4 => ?_⟩⟩⟩
        try (any_goals (exfalso; first | omega | exact absurd trivial (by assumption)))
        exact hom_40 (L := R) (v0 := v) hQ (by omega) (by omega) p1 (by omega) p3 (fun v2 z1 z2 z3 z4 => g2 z1 z2 z3 z4) 36 0 (by omega) (fun _ _ => rfl) (fun o o1 o2 => by omega) (fun _ _ => rfl)
theorem c_M_hours {n : Int} {s : zSg} (hh : cH (gC s) ≤ 800000) (hA : AM v s) (K : ∀ v' : zH, Fm v v' → AM v' (gHours s n) → Q (aHours s n) v') : zC l G 1 (d + 7) h_M_hours [(2, 77), (0, n)] v 115 Q := by
  obtain ⟨hQ, a2, a3, a4, a5⟩ := id hA
  have hM := hQ.1.2.1
  unfold gHours aHours at K
  refine zC_at ok_M_hours ck_M_hours rfl rfl (sg_M_hours_0 ?_)
  try simp (disch := omega) only [zup_e, zup_ak, zup_j, Int.zero_add, Int.reduceAdd, mz78, mz79, mz80, mz81, mz82, mz83, mz84, mz85, mz86, mz87, mz88, mz89, mz90, mz91, mz92, mz93, mz94, mz95, mz96, mz97, mz98, mz99, mz100, mz101, mz102, mz103, mz104, mz105, mz106, mz107, mz108, mz109, mz110, mz111, mz112, mz113]
  refine ⟨by first | decide | omega | contradiction | exact absurd trivial (by assumption), ?_⟩
  try (any_goals (exfalso; first | omega | exact absurd trivial (by assumption)))
  refine c_M_areHours hM ?_
  by_cases hn : 0 < wR (gW s) ∧ (1 ≤ n ∧ n ≤ 72)
  rotate_left
  · rw [if_neg hn]
    rw [if_neg hn, if_neg hn] at K
    refine ⟨fun q1 => ?_, fun q2 => ?_⟩
    try (any_goals (exfalso; first | omega | exact absurd trivial (by assumption)))
    exact K v Fm_rf hA
  rw [if_pos hn]
  rw [if_pos hn, if_pos hn] at K
  obtain ⟨hR, hn⟩ := hn
  obtain ⟨m, rfl⟩ : ∃ m : Nat, n = m := ⟨n.toNat, by omega⟩
  rw [Int.toNat_natCast] at K
  refine ⟨fun q1 => ?_, fun q2 => ?_⟩
  try (any_goals (exfalso; first | omega | exact absurd trivial (by assumption)))
  refine hom_8 (v0 := v) (L := gL s) (by omega) (show cH (gC s) + (m : Int) ≤ 900000 by omega) (fun v1 f1 f2 f3 f4 => ?_) m 0 (by omega) (fun _ _ => rfl) (fun _ _ _ => rfl) hQ a3
  exact K v1 (fun b q => f1 b (by omega)) ⟨f3, TM_fr (f2 2 (by omega) (by omega)) (f1 78 (by omega)) a2, f4, MIm_fr (f2 62 (by omega) (by omega)) (f2 61 (by omega) (by omega)) (f1 113 (by omega)) a4, MTo_fr (f2 56 (by omega) (by omega)) (f1 107 (by omega)) (f1 108 (by omega)) (f1 109 (by omega)) a5⟩
end
