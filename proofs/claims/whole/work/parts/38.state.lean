/-! THE STATE; the calls that change it, in the class -/
-- tape, wall, course, sky, past, image, touches
abbrev zSg : Type := zTp × zWl × zCo × zSk × zPa × zIm × zTo
def gX (s : zSg) : zTp := s.1
def gW (s : zSg) : zWl := s.2.1
def gC (s : zSg) : zCo := s.2.2.1
def gS (s : zSg) : zSk := s.2.2.2.1
def gL (s : zSg) : zPa := s.2.2.2.2.1
def gI (s : zSg) : zIm := s.2.2.2.2.2.1
def gT (s : zSg) : zTo := s.2.2.2.2.2.2
def hOk (W : zWl) (c : zCo) (f : Int → Int) : Prop := ∀ a : Int, 0 ≤ a → a < wN W → 0 ≤ f a ∧ f a ≤ wT W (3 * cS c a + 1)
/-- what holds of a state whose hours are no more than B -/
def GOk (s : zSg) (B : Int) : Prop :=
  Wok (gW s) ∧ Cok (gW s) (gC s) ∧ cH (gC s) ≤ B ∧ tOk (gX s) ∧ Tok (gW s) (gT s) ∧ Sok (gS s) ∧ ((gL s).length ≤ cH (gC s) ∧ (gL s).length ≤ 60) ∧ (∀ f ∈ gL s, hOk (gW s) (gC s) f) ∧ ((gI s).1 = true → (0 ≤ (gI s).2.2 ∧ (gI s).2.2 ≤ B) ∧ hOk (gW s) (gC s) (gI s).2.1)
def TP (v : zH) (X : zTp) : Prop := v 1 1 = X.2 ∧ ∀ j : Int, 0 ≤ j → j < X.2 → v (1 + 1) j = X.1 j
/-- the class's cells hold the state -/
def AC (v : zH) (s : zSg) : Prop := ∃ w : Int, QC v w (gW s) (gC s) (gS s) ∧ v 0 11 = 115 - w ∧ TP v (gX s) ∧ PS v (gW s) (gL s) (gI s) ∧ TS v (gT s)
/-- what is not the class's stays -/
def Fc (v v' : zH) : Prop := ∀ b : Int, 77 ≤ b → v' b = v b
theorem Fc_rf {v : zH} : Fc v v := fun _ _ => rfl
theorem Fc_tr {u v w : zH} (h : Fc u v) (g : Fc v w) : Fc u w := fun b q => (g b q).trans (h b q)
theorem Fq_Fc {v v' : zH} (h : Fq v v') : Fc v v' := fun b q => h b (by unfold fK; omega) (by omega) (by omega) (by omega)
theorem TP_fr {v v' : zH} {X : zTp} (h : ∀ a : Int, a = 1 ∨ a = 1 + 1 → v' a = v a) (k : TP v X) : TP v' X := by
  refine ⟨by rw [h 1 (by omega)]; exact k.1, fun j h1 h2 => ?_⟩
  rw [h (1 + 1) (by omega)]
  exact k.2 j h1 h2
theorem PS_fr {v v' : zH} {W : zWl} {L : zPa} {I : zIm} (h : ∀ a : Int, 42 ≤ a → a ≤ 44 → v' a = v a) (k : PS v W L I) : PS v' W L I := by
  have e0 := h 42 (by omega) (by omega)
  have e1 := h (42 + 1) (by omega) (by omega)
  have e2 := h (42 + 2) (by omega) (by omega)
  unfold PS at k ⊢
  rw [e0, e1, e2]
  exact k
theorem AC_Fq {v v' : zH} {s : zSg} {w : Int} (h0 : QC v w (gW s) (gC s) (gS s)) (h : Fq v v') (hQ : QC v' w (gW s) (gC s) (gS s)) (k2 : v 0 11 = 115 - w) (k3 : TP v (gX s)) (k4 : PS v (gW s) (gL s) (gI s)) (k5 : TS v (gT s)) : AC v' s := by
  refine ⟨w, hQ, ?_, TP_fr (fun a q => h a (by unfold fK; omega) (by omega) (by omega) (by omega)) k3, PS_fr (fun a q1 q2 => h a (by unfold fK; omega) (by omega) (by omega) (by omega)) k4, TS_Fq h k5⟩
  rw [h 0 (by unfold fK; omega) (by omega) (by omega) (by omega)]
  exact k2
/-- a question's contract: from that over the wall to that over the state -/
theorem ask {l : Launch} {G : zG} {D : Nat} {h : zHdr} {As : List zV} {v : zH} {s : zSg} {Q : Int → zH → Prop} {x : Int}
    (hA : AC v s) (C : ∀ (w : Int), QC v w (gW s) (gC s) (gS s) → TS v (gT s) → (∀ v' : zH, Fq v v' → QC v' w (gW s) (gC s) (gS s) → Q x v') → zC l G 1 D h As v 115 Q) (K : ∀ v' : zH, Fc v v' → AC v' s → Q x v') : zC l G 1 D h As v 115 Q := by
  obtain ⟨w, k1, k2, k3, k4, k5⟩ := hA
  exact C w k1 k5 (fun v' h1 h2 => K v' (Fq_Fc h1) (AC_Fq k1 h1 h2 k2 k3 k4 k5))
/-- the wall's picture stays where only the tape, the past or the touches change -/
theorem QC_fr' {v v' : zH} {w : Int} {W : zWl} {c : zCo} {S : zSk} (h : ∀ b : Int, (b ≠ 1 ∧ b ≠ 1 + 1 ∧ b ≠ 3 ∧ b ≠ 4 ∧ ¬ (42 ≤ b ∧ b ≤ 48)) → v' b = v b) (k : QC v w W c S) : QC v' w W c S := by
  obtain ⟨k1, k2, k3, k4, k5, k6, k7, k8⟩ := k
  refine ⟨?_, k2, k3, WL_fr (fun a h1 h2 => h a (by omega)) k4, k5, CO_fr (fun a q => h a (by omega)) k6, k7, SK_fk k7 (fun a h1 h2 => h a (by omega)) k8⟩
  rw [h 0 (by omega)]
  exact k1
-- the tape
def byt (w s : Int) : Int := zand (zushr w s) 255
theorem n32 (x : Int32) : ∃ n : Nat, n < 2 ^ 32 ∧ x = nI n := ⟨x.toBitVec.toNat, x.toBitVec.isLt, Int32.toBitVec_inj.mp (by show _ = BitVec.ofNat 32 _; simp)⟩
theorem byt_b (w s : Int) : 0 ≤ byt w s ∧ byt w s ≤ 255 := by
  unfold byt zand
  obtain ⟨n, -, e⟩ := n32 (Int32.ofInt (zushr w s))
  rw [e]
  have e255 : Int32.ofInt 255 = nI 255 := zb_o 255
  rw [e255, nx_and]
  have : n &&& 255 ≤ 255 := Nat.and_le_right
  rw [zb_i (by omega)]
  omega
def tAp (X : zTp) (b : Int) : zTp := if b = 0 then X else (upf X.1 X.2 b, X.2 + 1)
def tAw (X : zTp) (w : Int) : zTp := tAp (tAp (tAp (tAp X (byt w 24)) (byt w 16)) (byt w 8)) (byt w 0)
def bn1 (b : Int) : Int := if b = 0 then 0 else 1
def bin (w : Int) : Int := bn1 (byt w 24) + bn1 (byt w 16) + bn1 (byt w 8) + bn1 (byt w 0)
theorem tAp_n {X : zTp} {b : Int} : (tAp X b).2 = X.2 + bn1 b := by
  unfold tAp bn1
  split
  · omega
  · rfl
theorem bn1_b (b : Int) : 0 ≤ bn1 b ∧ bn1 b ≤ 1 := by
  unfold bn1
  split <;> omega
theorem tAw_n {X : zTp} {w : Int} : (tAw X w).2 = X.2 + bin w := by
  unfold tAw bin
  rw [tAp_n, tAp_n, tAp_n, tAp_n]
  omega
theorem bin_b (w : Int) : 0 ≤ bin w ∧ bin w ≤ 4 := by
  have h1 := bn1_b (byt w 24)
  have h2 := bn1_b (byt w 16)
  have h3 := bn1_b (byt w 8)
  have h4 := bn1_b (byt w 0)
  unfold bin
  omega
theorem tAp_ok {X : zTp} {b : Int} (h : tOk X) (hb : 0 ≤ b ∧ b ≤ 255) (hn : X.2 + bn1 b ≤ 160) : tOk (tAp X b) := by
  have hn' := tAp_n (X := X) (b := b)
  have hb1 := bn1_b b
  refine ⟨?_, fun j h1 h2 => ?_⟩
  · have := h.1
    omega
  · by_cases q : b = 0
    · have e : tAp X b = X := if_pos q
      rw [e] at h2 ⊢
      exact h.2 j h1 h2
    · have e : tAp X b = (upf X.1 X.2 b, X.2 + 1) := if_neg q
      rw [e] at h2 ⊢
      show 1 ≤ upf X.1 X.2 b j ∧ upf X.1 X.2 b j ≤ 255
      have h2 : j < X.2 + 1 := h2
      unfold upf
      split
      · omega
      · exact h.2 j h1 (by omega)
theorem tAw_ok {X : zTp} {w : Int} (h : tOk X) (hn : X.2 + bin w ≤ 160) : tOk (tAw X w) := by
  have h1 := bn1_b (byt w 24)
  have h2 := bn1_b (byt w 16)
  have h3 := bn1_b (byt w 8)
  have h4 := bn1_b (byt w 0)
  unfold bin at hn
  have e1 := tAp_n (X := X) (b := byt w 24)
  have e2 := tAp_n (X := tAp X (byt w 24)) (b := byt w 16)
  have e3 := tAp_n (X := tAp (tAp X (byt w 24)) (byt w 16)) (b := byt w 8)
  exact tAp_ok (tAp_ok (tAp_ok (tAp_ok h (byt_b _ _) (by omega)) (byt_b _ _) (by omega)) (byt_b _ _) (by omega)) (byt_b _ _) (by omega)
def gFeedX (X : zTp) (a b c d e : Int) : zTp := if X.2 + (bin a + bin b + bin c + bin d + bin e) ≤ 160 then tAw (tAw (tAw (tAw (tAw X a) b) c) d) e else X
def aFeed (X : zTp) (a b c d e : Int) : Int := if X.2 + (bin a + bin b + bin c + bin d + bin e) ≤ 160 then X.2 + (bin a + bin b + bin c + bin d + bin e) else -1
section
variable {l : Launch} {G : zG} {d : Nat} {v : zH} {Q : Int → zH → Prop}
theorem c_Ta_bytesIn {w : Int} (K : Q (bin w) v) : zC l G 1 (d + 1) h_Ta_bytesIn [(0, w)] v 115 Q := by
  have step : ∀ (t s : Int) (QX : Nat → zH → Prop), (0 ≤ t ∧ t ≤ 10) → (0 ≤ s ∧ s ≤ 24) → zJ l G 1 (d + 1) h_Ta_bytesIn k_Ta_bytesIn 115 Q QX 4 [(0, w), (0, t + bn1 (byt w s)), (0, s + -8)] [] v 115 → zJ l G 1 (d + 1) h_Ta_bytesIn k_Ta_bytesIn 115 Q QX 4 [(0, w), (0, t), (0, s)] [] v 115 := by
    intro t s QX ht hs Kn
    refine zgo ck_Ta_bytesIn 300 4 _ _ _ _ rfl (sg_Ta_bytesIn_4 ?_)
    have eb : zand (zushr w s) 255 = byt w s := rfl
    rw [eb]
    refine ⟨fun q1 => ?_, fun q2 => ⟨fun q3 => ⟨⟨by first | decide | omega, by first | decide | omega⟩, ?_⟩, fun q4 => ⟨⟨by first | decide | omega, by first | decide | omega⟩, ⟨by first | decide | omega, by first | decide | omega⟩, ?_⟩⟩⟩
    try (any_goals (exfalso; first | omega | exact absurd trivial (by assumption)))
    · unfold bn1 at Kn
      rw [if_pos q3, Int.add_zero] at Kn
      exact Kn
    · unfold bn1 at Kn
      rw [if_neg q4] at Kn
      exact Kn
  have h1 := bn1_b (byt w 24)
  have h2 := bn1_b (byt w 16)
  have h3 := bn1_b (byt w 8)
  have h4 := bn1_b (byt w 0)
  refine zC_at ok_Ta_bytesIn ck_Ta_bytesIn rfl rfl (sg_Ta_bytesIn_0 ?_)
  refine step 0 24 _ (by omega) (by omega) ?_
  refine step _ 16 _ (by omega) (by omega) ?_
  refine step _ 8 _ (by omega) (by omega) ?_
  refine step _ 0 _ (by omega) (by omega) ?_
  refine zgo ck_Ta_bytesIn 300 4 _ _ _ _ rfl (sg_Ta_bytesIn_4 ?_)
  refine ⟨fun q1 => ?_, fun q2 => ⟨fun q3 => ⟨⟨by first | decide | omega, by first | decide | omega⟩, ?_⟩, fun q4 => ⟨⟨by first | decide | omega, by first | decide | omega⟩, ⟨by first | decide | omega, by first | decide | omega⟩, ?_⟩⟩⟩
  try (any_goals (exfalso; first | omega | exact absurd trivial (by assumption)))
  refine zQe K ?_
  unfold bin
  omega
theorem ap_step {w s : Int} {X : zTp} {QX : Nat → zH → Prop} (hX : TP v X) (ht : tOk X) (hn : X.2 + bn1 (byt w s) ≤ 160) (hs : 0 ≤ s ∧ s ≤ 24) (K : ∀ v' : zH, (∀ b : Int, b ≠ 1 → b ≠ 1 + 1 → v' b = v b) → TP v' (tAp X (byt w s)) → zJ l G 1 (d + 1) h_Ta_append k_Ta_append 115 Q QX 2 [(2, 1), (0, w), (0, s + -8), (3, 0)] [] v' 115) :
    zJ l G 1 (d + 1) h_Ta_append k_Ta_append 115 Q QX 2 [(2, 1), (0, w), (0, s), (3, 0)] [] v 115 := by
  have hz : zLN (1 + 1) = 160 := by decide
  have h0 := ht.1
  refine zgo ck_Ta_append 300 2 _ _ _ _ rfl (sg_Ta_append_2 ?_)
  have eb : zand (zushr w s) 255 = byt w s := rfl
  rw [eb, hX.1]
  simp (disch := omega) only [zup_e, zup_ak, zup_j, hX.1]
  refine ⟨fun q1 => ?_, fun q2 => ⟨fun q3 => ⟨⟨by first | decide | omega, by first | decide | omega⟩, ?_⟩, fun q4 => ⟨by first | decide | omega, by first | decide | omega, by first | decide | omega, ⟨fun q5 => ⟨⟨by first | decide | omega, by first | decide | omega⟩, ?_⟩, fun q6 => ⟨by first | decide | omega, by first | decide | omega, by first | decide | omega, ⟨by first | decide | omega, by first | decide | omega⟩, by first | decide | omega, ⟨by first | decide | omega, by first | decide | omega⟩, by first | decide | omega, ⟨by first | decide | omega, by first | decide | omega⟩, ?_⟩⟩⟩⟩⟩
  try (any_goals (exfalso; first | omega | exact absurd trivial (by assumption)))
  · have e : tAp X (byt w s) = X := if_pos q3
    rw [e] at K
    exact K v (fun _ _ _ => rfl) hX
  · unfold bn1 at hn
    rw [if_neg q4] at hn
    omega
  · have e : tAp X (byt w s) = (upf X.1 X.2 (byt w s), X.2 + 1) := if_neg q4
    rw [e] at K
    refine K _ (fun b h1 h2 => by rw [zup_a h1, zup_a h2]) ⟨zup_e rfl rfl, fun j h1 h2 => ?_⟩
    have h2 : j < X.2 + 1 := h2
    rw [zup_ak (by omega)]
    show _ = upf X.1 X.2 (byt w s) j
    by_cases e : j = X.2
    · rw [e, upf_s, zup_e rfl rfl]
    · rw [upf_n e, zup_j e]
      exact hX.2 j h1 (by omega)
theorem c_Ta_append {w : Int} {X : zTp} (hX : TP v X) (ht : tOk X) (hn : X.2 + bin w ≤ 160) (K : ∀ v' : zH, (∀ b : Int, b ≠ 1 → b ≠ 1 + 1 → v' b = v b) → TP v' (tAw X w) → Q 0 v') : zC l G 1 (d + 1) h_Ta_append [(2, 1), (0, w)] v 115 Q := by
  have h1 := bn1_b (byt w 24)
  have h2 := bn1_b (byt w 16)
  have h3 := bn1_b (byt w 8)
  have h4 := bn1_b (byt w 0)
  unfold bin at hn
  have e1 := tAp_n (X := X) (b := byt w 24)
  have e2 := tAp_n (X := tAp X (byt w 24)) (b := byt w 16)
  have e3 := tAp_n (X := tAp (tAp X (byt w 24)) (byt w 16)) (b := byt w 8)
  have t1 := tAp_ok (b := byt w 24) ht (byt_b _ _) (by omega)
  have t2 := tAp_ok (b := byt w 16) t1 (byt_b _ _) (by omega)
  have t3 := tAp_ok (b := byt w 8) t2 (byt_b _ _) (by omega)
  refine zC_at ok_Ta_append ck_Ta_append rfl rfl (sg_Ta_append_0 ?_)
  refine ap_step hX ht (by omega) (by omega) (fun v1 f1 g1 => ?_)
  refine ap_step g1 t1 (s := 16) (by omega) (by omega) (fun v2 f2 g2 => ?_)
  refine ap_step g2 t2 (s := 8) (by omega) (by omega) (fun v3 f3 g3 => ?_)
  refine ap_step g3 t3 (s := 0) (by omega) (by omega) (fun v4 f4 g4 => ?_)
  refine zgo ck_Ta_append 300 2 _ _ _ _ rfl (sg_Ta_append_2 ?_)
  refine ⟨fun q1 => ?_, fun q2 => ⟨fun q3 => ⟨⟨by first | decide | omega, by first | decide | omega⟩, ?_⟩, fun q4 => ⟨by first | decide | omega, by first | decide | omega, by first | decide | omega, ⟨fun q5 => ⟨⟨by first | decide | omega, by first | decide | omega⟩, ?_⟩, fun q6 => ⟨by first | decide | omega, by first | decide | omega, by first | decide | omega, ⟨by first | decide | omega, by first | decide | omega⟩, by first | decide | omega, ⟨by first | decide | omega, by first | decide | omega⟩, by first | decide | omega, ⟨by first | decide | omega, by first | decide | omega⟩, ?_⟩⟩⟩⟩⟩
  try (any_goals (exfalso; first | omega | exact absurd trivial (by assumption)))
  exact K v4 (fun b q1 q2 => by rw [f4 b q1 q2, f3 b q1 q2, f2 b q1 q2, f1 b q1 q2]) g4
theorem AC_tape {v' : zH} {s : zSg} {X : zTp} (hA : AC v s) (h : ∀ b : Int, b ≠ 1 → b ≠ 1 + 1 → v' b = v b) (hX : TP v' X) : AC v' (X, gW s, gC s, gS s, gL s, gI s, gT s) := by
  obtain ⟨w, k1, k2, k3, k4, k5⟩ := hA
  refine ⟨w, QC_fr' ?_ k1, ?_, hX, PS_fr (fun a q1 q2 => h a (by omega) (by omega)) k4, TS_fr (fun a q1 q2 => h a (by omega) (by omega)) k5⟩
  · exact fun b q => h b (by omega) (by omega)
  · rw [h 0 (by omega) (by omega)]
    exact k2
theorem c_W_feed {a b c e f : Int} {s : zSg} {B : Int} (hA : AC v s) (hG : GOk s B) (K : ∀ v' : zH, Fc v v' → AC v' (gFeedX (gX s) a b c e f, gW s, gC s, gS s, gL s, gI s, gT s) → Q (aFeed (gX s) a b c e f) v') : zC l G 1 (d + 2) h_W_feed [(2, 0), (0, a), (0, b), (0, c), (0, e), (0, f)] v 115 Q := by
  have hA' := hA
  obtain ⟨w, k1, k2, k3, k4, k5⟩ := hA
  have ht := hG.2.2.2.1
  have b1 := bin_b a
  have b2 := bin_b b
  have b3 := bin_b c
  have b4 := bin_b e
  have b5 := bin_b f
  have h0 := ht.1
  unfold aFeed gFeedX at K
  refine zC_at ok_W_feed ck_W_feed rfl rfl (sg_W_feed_0 ?_)
  refine c_Ta_bytesIn ?_
  show _
  refine c_Ta_bytesIn ?_
  refine ⟨⟨by first | decide | omega, by first | decide | omega⟩, ?_⟩
  try (any_goals (exfalso; first | omega | exact absurd trivial (by assumption)))
  refine c_Ta_bytesIn ?_
  refine ⟨⟨by first | decide | omega, by first | decide | omega⟩, ?_⟩
  try (any_goals (exfalso; first | omega | exact absurd trivial (by assumption)))
  refine c_Ta_bytesIn ?_
  refine ⟨⟨by first | decide | omega, by first | decide | omega⟩, ?_⟩
  try (any_goals (exfalso; first | omega | exact absurd trivial (by assumption)))
  refine c_Ta_bytesIn ?_
  show _
  simp only [Int.zero_add, k3.1]
  refine ⟨⟨by first | decide | omega, by first | decide | omega⟩, by first | decide | omega, by first | decide | omega, ⟨by first | decide | omega, by first | decide | omega⟩, ⟨fun q1 => ⟨by first | decide | omega, by first | decide | omega, ?_⟩, fun q2 => ?_⟩⟩
  try (any_goals (exfalso; first | omega | exact absurd trivial (by assumption)))
  · rw [if_pos q1, if_pos q1] at K
    have t1 := tAw_ok (w := a) ht (by omega)
    have n1 := tAw_n (X := gX s) (w := a)
    have t2 := tAw_ok (w := b) t1 (by omega)
    have n2 := tAw_n (X := tAw (gX s) a) (w := b)
    have t3 := tAw_ok (w := c) t2 (by omega)
    have n3 := tAw_n (X := tAw (tAw (gX s) a) b) (w := c)
    have t4 := tAw_ok (w := e) t3 (by omega)
    have n4 := tAw_n (X := tAw (tAw (tAw (gX s) a) b) c) (w := e)
    have n5 := tAw_n (X := tAw (tAw (tAw (tAw (gX s) a) b) c) e) (w := f)
    refine c_Ta_append k3 ht (by omega) (fun v1 f1 x1 => ?_)
    try simp (disch := omega) only [zup_e, zup_ak, zup_j, Int.zero_add]
    refine ⟨by first | decide | omega, by first | decide | omega, ?_⟩
    refine c_Ta_append x1 t1 (by omega) (fun v2 f2 x2 => ?_)
    try simp (disch := omega) only [zup_e, zup_ak, zup_j, Int.zero_add]
    refine ⟨by first | decide | omega, by first | decide | omega, ?_⟩
    refine c_Ta_append x2 t2 (by omega) (fun v3 f3 x3 => ?_)
    try simp (disch := omega) only [zup_e, zup_ak, zup_j, Int.zero_add]
    refine ⟨by first | decide | omega, by first | decide | omega, ?_⟩
    refine c_Ta_append x3 t3 (by omega) (fun v4 f4 x4 => ?_)
    try simp (disch := omega) only [zup_e, zup_ak, zup_j, Int.zero_add]
    refine ⟨by first | decide | omega, by first | decide | omega, ?_⟩
    refine c_Ta_append x4 t4 (by omega) (fun v5 f5 x5 => ?_)
    try simp (disch := omega) only [zup_e, zup_ak, zup_j, Int.zero_add]
    refine ⟨by first | decide | omega, by first | decide | omega, ?_⟩
    have hf : ∀ b : Int, b ≠ 1 → b ≠ 1 + 1 → v5 b = v b := fun b q1 q2 => by rw [f5 b q1 q2, f4 b q1 q2, f3 b q1 q2, f2 b q1 q2, f1 b q1 q2]
    refine zQe (K v5 (fun b q => hf b (by omega) (by omega)) (AC_tape hA' hf x5)) ?_
    rw [x5.1]
    omega
  · rw [if_neg (by omega), if_neg (by omega)] at K
    exact K v Fc_rf hA'
theorem c_W_end {n : Int} {s : zSg} (hA : AC v s) (K : ∀ v' : zH, Fc v v' → AC v' (if 0 ≤ n ∧ n ≤ (gX s).2 then ((gX s).1, n) else gX s, gW s, gC s, gS s, gL s, gI s, gT s) → Q (if 0 ≤ n ∧ n ≤ (gX s).2 then 1 else 0) v') : zC l G 1 (d + 2) h_W_end [(2, 0), (0, n)] v 115 Q := by
  have hA' := hA
  obtain ⟨w, k1, k2, k3, k4, k5⟩ := hA
  refine zC_at ok_W_end ck_W_end rfl rfl (sg_W_end_0 ?_)
  try simp (disch := omega) only [zup_e, zup_ak, zup_j, Int.zero_add, k3.1]
  refine ⟨by first | decide | omega, by first | decide | omega, ?_⟩
  try (any_goals (exfalso; first | omega | exact absurd trivial (by assumption)))
  refine c_W_within ?_
  by_cases h : 0 ≤ n ∧ n ≤ (gX s).2
  · rw [if_pos h] at K ⊢
    rw [if_pos h] at K
    try simp (disch := omega) only [zup_e, zup_ak, zup_j, Int.zero_add]
    refine ⟨fun q1 => ⟨by first | decide | omega, by first | decide | omega, by first | decide | omega, ?_⟩, fun q2 => ⟨by first | decide | omega, ?_⟩⟩
    try (any_goals (exfalso; first | omega | exact absurd trivial (by assumption)))
    refine K _ (fun b q => zup_a (by omega)) (AC_tape hA' (fun b q1 q2 => zup_a q1) ⟨zup_e rfl rfl, fun j h1 h2 => ?_⟩)
    rw [zup_ak (by omega)]
    have h2 : j < n := h2
    exact k3.2 j h1 (by omega)
  · rw [if_neg h] at K ⊢
    rw [if_neg h] at K
    try simp (disch := omega) only [zup_e, zup_ak, zup_j, Int.zero_add]
    refine ⟨fun q1 => ⟨by first | decide | omega, by first | decide | omega, by first | decide | omega, ?_⟩, fun q2 => ⟨by first | decide | omega, ?_⟩⟩
    try (any_goals (exfalso; first | omega | exact absurd trivial (by assumption)))
    exact K v Fc_rf hA'
def aCount (s : zSg) (k : Int) : Int :=
  if k = 0 then wR (gW s) else if k = 1 then wC (gW s) else if k = 2 then wS (gW s) else if k = 3 then wO (gW s) else if k = 4 then wZ (gW s) else if k = 5 then (kA (gS s)).length else if k = 6 then (gX s).2 else if k = 7 then cH (gC s) else if k = 8 then kH (gS s) else if k = 9 then tN (gT s) else if k = 10 then (gL s).length else if k = 11 then kR (gS s) else -1000000
theorem c_W_count {k : Int} {s : zSg} (hA : AC v s) (K : Q (aCount s k) v) : zC l G 1 (d + 2) h_W_count [(2, 0), (0, k)] v 115 Q := by
  obtain ⟨w, k1, k2, k3, k4, k5⟩ := hA
  obtain ⟨q1, q2, q3, q4, q5, q6, q7, q8⟩ := k1
  obtain ⟨nx, p1, p2, p3, -⟩ := k4
  obtain ⟨s1, s2, s3, -⟩ := q8
  obtain ⟨l1, l2, l3, l4, l5, l6, -⟩ := q4
  have hw := q2
  obtain ⟨w0, w1, w3, w5, -⟩ := zwo_f hw
  unfold aCount at K
  refine zC_at ok_W_count ck_W_count rfl rfl (sg_W_count_0 ?_)
  simp only [Int.zero_add, q1, l1, l2, l4, l5, l6, s1, s2, s3, k3.1, q6.1, k5.1, p3]
  refine ⟨fun q1 => ?_, fun q2 => ⟨by first | decide | omega, by first | decide | omega, by first | decide | omega, ?_⟩, fun q3 => ⟨by first | decide | omega, by first | decide | omega, by first | decide | omega, ?_⟩, fun q4 => ⟨by first | decide | omega, by first | decide | omega, by first | decide | omega, by first | decide | omega, ?_⟩, fun q5 => ⟨by first | decide | omega, by first | decide | omega, by first | decide | omega, by first | decide | omega, ?_⟩, fun q6 => ⟨by first | decide | omega, by first | decide | omega, by first | decide | omega, by first | decide | omega, ?_⟩, fun q7 => ⟨by first | decide | omega, by first | decide | omega, ?_⟩, fun q8 => ⟨by first | decide | omega, by first | decide | omega, ?_⟩, fun q9 => ⟨by first | decide | omega, by first | decide | omega, ?_⟩, fun q10 => ⟨by first | decide | omega, by first | decide | omega, ?_⟩, fun q11 => ⟨by first | decide | omega, by first | decide | omega, ?_⟩, fun q12 => ⟨by first | decide | omega, by first | decide | omega, ?_⟩, fun q13 => ⟨by first | decide | omega, by first | decide | omega, ?_⟩, fun q14 => ?_⟩
  try (any_goals (exfalso; first | omega | exact absurd trivial (by assumption)))
  all_goals (repeat (first | rw [if_pos (by omega)] at K | rw [if_neg (by omega)] at K))
  all_goals exact K
end
