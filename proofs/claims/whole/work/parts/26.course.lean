/-! THE CLASS: the pictures of a wall and a course; kinds' numbers; sharing -/
def WL (v : zH) (w : Int) (W : zWl) : Prop :=
  v w 9 = wR W ∧ v w 10 = wC W ∧ v w 11 = wN W ∧ v (w + 1) 6 = wS W ∧ v (w + 3) 6 = wO W ∧ v (w + 5) 6 = wZ W ∧
  (∀ j : Int, 0 ≤ j → j < 3 * wS W → v (w + 1 + 1) j = wT W j) ∧ (∀ j : Int, 0 ≤ j → j < 5 * wO W → v (w + 3 + 1) j = wV W j) ∧ (∀ j : Int, 0 ≤ j → j < 2 * wZ W → v (w + 5 + 1) j = wL W j) ∧
  (∀ a : Int, 0 ≤ a → a < wN W → v (w + 9) a = a / wC W ∧ v (w + 10) a = a % wC W ∧ v (w + 11) a = wG W a ∧ ∀ i : Int, 0 ≤ i → i < 4 → v (w + 12) (a * 4 + i) = sd (wR W) (wC W) a i)
def CO (v : zH) (o : Int) (W : zWl) (c : zCo) : Prop :=
  v o 8 = cH c ∧ (∀ a : Int, 0 ≤ a → a < wN W → v (o + 1) a = cW c a ∧ v (o + 3) a = cS c a) ∧ (∀ k : Int, 0 ≤ k → k < wO W → v (o + 4) k = cF c k ∧ v (o + 5) k = cU c k)
theorem WL_fr {v v' : zH} {w : Int} {W : zWl} (h : ∀ a : Int, w ≤ a → a ≤ w + 12 → v' a = v a) (k : WL v w W) : WL v' w W := by
  obtain ⟨k1, k2, k3, k4, k5, k6, k7, k8, k9, k10⟩ := k
  refine ⟨?_, ?_, ?_, ?_, ?_, ?_, fun j h1 h2 => ?_, fun j h1 h2 => ?_, fun j h1 h2 => ?_, fun a h1 h2 => ?_⟩
  · rw [h w (by omega) (by omega)]; exact k1
  · rw [h w (by omega) (by omega)]; exact k2
  · rw [h w (by omega) (by omega)]; exact k3
  · rw [h (w + 1) (by omega) (by omega)]; exact k4
  · rw [h (w + 3) (by omega) (by omega)]; exact k5
  · rw [h (w + 5) (by omega) (by omega)]; exact k6
  · rw [h (w + 1 + 1) (by omega) (by omega)]; exact k7 j h1 h2
  · rw [h (w + 3 + 1) (by omega) (by omega)]; exact k8 j h1 h2
  · rw [h (w + 5 + 1) (by omega) (by omega)]; exact k9 j h1 h2
  · rw [h (w + 9) (by omega) (by omega), h (w + 10) (by omega) (by omega), h (w + 11) (by omega) (by omega), h (w + 12) (by omega) (by omega)]
    exact k10 a h1 h2
theorem CO_fr {v v' : zH} {o : Int} {W : zWl} {c : zCo} (h : ∀ a : Int, (a = o ∨ a = o + 1 ∨ a = o + 3 ∨ a = o + 4 ∨ a = o + 5) → v' a = v a) (k : CO v o W c) : CO v' o W c := by
  obtain ⟨k1, k2, k3⟩ := k
  refine ⟨?_, fun a h1 h2 => ?_, fun a h1 h2 => ?_⟩
  · rw [h o (by omega)]; exact k1
  · rw [h (o + 1) (by omega), h (o + 3) (by omega)]; exact k2 a h1 h2
  · rw [h (o + 4) (by omega), h (o + 5) (by omega)]; exact k3 a h1 h2
theorem SK_fk {v v' : zH} {S : zSk} (hS : Sok S) (h : ∀ a : Int, 5 ≤ a → a ≤ 20 → v' a = v a) (k : SK v S) : SK v' S := by
  refine SK_fr hS (fun a ha => h a (by omega) (by omega)) ?_ k
  have k6 := k.2.2.2.2.2
  unfold Skc at *
  rw [h 7 (by omega) (by omega), h 8 (by omega) (by omega)]
  exact k6
abbrev zki (o : Int) : Prop := o = 52 ∨ o = 54 ∨ o = 56 ∨ o = 65 ∨ o = 67 ∨ o = 69
theorem zki_f {o : Int} (h : zki o) : zCL o = 1 ∧ zCL (o + 1) = 20 ∧ zCL (zKT 4 o) = 25 ∧ zLN (zKT 4 o) = kN (zKd o) ∧ zKT 0 o = kMx (zKd o) ∧ ((kN (zKd o) = 3 ∧ zLN (o + 1) = 12 ∧ kMx (zKd o) = 4) ∨ (kN (zKd o) = 5 ∧ zLN (o + 1) = 15 ∧ kMx (zKd o) = 3) ∨ (kN (zKd o) = 2 ∧ zLN (o + 1) = 10 ∧ kMx (zKd o) = 5)) := by
  rcases h with rfl | rfl | rfl | rfl | rfl | rfl <;> decide
theorem zwo_k {w : Int} (h : zwo w) : zki (w + 1) ∧ zki (w + 3) ∧ zki (w + 5) ∧ zKd (w + 1) = 0 ∧ zKd (w + 3) = 1 ∧ zKd (w + 5) = 2 := by
  rcases h with rfl | rfl <;> decide
theorem zwo_f {w : Int} (h : zwo w) : zCL w = 8 ∧ zCL (w + 1) = 1 ∧ zCL (w + 3) = 1 ∧ zCL (w + 5) = 1 ∧ (zCL (w + 7) = 20 ∧ zLN (w + 7) = 24) ∧ (zCL (w + 8) = 20 ∧ zLN (w + 8) = 4) ∧ (zCL (w + 9) = 20 ∧ zLN (w + 9) = 24) ∧ (zCL (w + 10) = 20 ∧ zLN (w + 10) = 24) ∧ (zCL (w + 11) = 20 ∧ zLN (w + 11) = 24) ∧ (zCL (w + 12) = 20 ∧ zLN (w + 12) = 96) := by
  rcases h with rfl | rfl <;> decide
theorem zco_f {o : Int} (h : zco o) : zcc o := by
  rcases h with rfl | rfl
  · exact zcc24
  · exact zcc33
section
variable {l : Launch} {G : zG} {d : Nat} {v : zH} {Q : Int → zH → Prop}
theorem c_Ki_number {o n s k : Int} (ho : zki o) (hn : v o 6 = n) (hb : 0 ≤ n ∧ n ≤ kMx (zKd o)) (K : Q (if (0 ≤ s ∧ s < n) ∧ 0 ≤ k ∧ k < kN (zKd o) then v (o + 1) (s * kN (zKd o) + k) else -1) v) : zC l G 1 (d + 1) h_Ki_number [(2, o), (0, s), (0, k)] v 115 Q := by
  obtain ⟨f1, f2, f3, f4, f5, f6⟩ := zki_f ho
  refine zC_at ok_Ki_number ck_Ki_number rfl rfl (sg_Ki_number_0 ?_)
  rw [hn, f4]
  rcases f6 with ⟨e, e2, e3⟩ | ⟨e, e2, e3⟩ | ⟨e, e2, e3⟩
  all_goals
    rw [e] at K ⊢
    rw [e3] at hb
    refine ⟨fun q1 => ?_, fun q2 => ⟨by first | decide | omega, ⟨fun q3 => ?_, fun q4 => ⟨fun q5 => ?_, fun q6 => ⟨by first | decide | omega, by first | decide | omega, ⟨fun q7 => ⟨by first | decide | omega, by first | decide | omega, by first | decide | omega, ⟨by first | decide | omega, by first | decide | omega⟩, ⟨by first | decide | omega, by first | decide | omega⟩, by first | decide | omega, ⟨by first | decide | omega, by first | decide | omega⟩, ?_⟩, fun q8 => ?_⟩⟩⟩⟩⟩⟩
    · rw [if_neg (by omega)] at K; exact K
    · rw [if_neg (by omega)] at K; exact K
    · rw [if_neg (by omega)] at K; exact K
    · rw [if_pos (by omega)] at K; exact K
    · rw [if_neg (by omega)] at K; exact K
theorem n_st {w s k : Int} {W : zWl} (hw : zwo w) (hW : Wok W) (hl : WL v w W) (hs : 0 ≤ s ∧ s < wS W) (hk : 0 ≤ k ∧ k < 3) (K : Q (wT W (3 * s + k)) v) : zC l G 1 (d + 1) h_Ki_number [(2, w + 1), (0, s), (0, k)] v 115 Q := by
  obtain ⟨z1, z2, z3, z4, z5, z6⟩ := zwo_k hw
  obtain ⟨W1, W2, W3, W4, W5, W6, W7, W8, W9, WT, WV, WZ, WG⟩ := hW
  obtain ⟨l1, l2, l3, l4, l5, l6, l7, l8, l9, l10⟩ := hl
  have m : kMx 0 = 4 := rfl
  have n : kN 0 = 3 := rfl
  refine c_Ki_number z1 l4 (by rw [z4, m]; omega) ?_
  rw [z4, n, if_pos (by omega), l7 _ (by omega) (by omega)]
  have e : s * 3 + k = 3 * s + k := by omega
  rw [e]
  exact K
theorem n_ov {w s k : Int} {W : zWl} (hw : zwo w) (hW : Wok W) (hl : WL v w W) (hs : 0 ≤ s ∧ s < wO W) (hk : 0 ≤ k ∧ k < 5) (K : Q (wV W (5 * s + k)) v) : zC l G 1 (d + 1) h_Ki_number [(2, w + 3), (0, s), (0, k)] v 115 Q := by
  obtain ⟨z1, z2, z3, z4, z5, z6⟩ := zwo_k hw
  obtain ⟨W1, W2, W3, W4, W5, W6, W7, W8, W9, WT, WV, WZ, WG⟩ := hW
  obtain ⟨l1, l2, l3, l4, l5, l6, l7, l8, l9, l10⟩ := hl
  have m : kMx 1 = 3 := rfl
  have n : kN 1 = 5 := rfl
  refine c_Ki_number z2 l5 (by rw [z5, m]; omega) ?_
  rw [z5, n, if_pos (by omega), l8 _ (by omega) (by omega)]
  have e : s * 5 + k = 5 * s + k := by omega
  rw [e]
  exact K
theorem n_sl {w s k : Int} {W : zWl} (hw : zwo w) (hW : Wok W) (hl : WL v w W) (hs : 0 ≤ s ∧ s < wZ W) (hk : 0 ≤ k ∧ k < 2) (K : Q (wL W (2 * s + k)) v) : zC l G 1 (d + 1) h_Ki_number [(2, w + 5), (0, s), (0, k)] v 115 Q := by
  obtain ⟨z1, z2, z3, z4, z5, z6⟩ := zwo_k hw
  obtain ⟨W1, W2, W3, W4, W5, W6, W7, W8, W9, WT, WV, WZ, WG⟩ := hW
  obtain ⟨l1, l2, l3, l4, l5, l6, l7, l8, l9, l10⟩ := hl
  have m : kMx 2 = 5 := rfl
  have n : kN 2 = 2 := rfl
  refine c_Ki_number z3 l6 (by rw [z6, m]; omega) ?_
  rw [z6, n, if_pos (by omega), l9 _ (by omega) (by omega)]
  have e : s * 2 + k = 2 * s + k := by omega
  rw [e]
  exact K
theorem c_Ki_has {o n s : Int} (ho : zki o) (hn : v o 6 = n) (K : Q (if 0 ≤ s ∧ s < n then 1 else 0) v) : zC l G 1 (d + 1) h_Ki_has [(2, o), (0, s)] v 115 Q := by
  obtain ⟨f1, f2, f3, f4, f5, f6⟩ := zki_f ho
  refine zC_at ok_Ki_has ck_Ki_has rfl rfl (sg_Ki_has_0 ?_)
  rw [hn]
  refine ⟨fun q1 => ⟨by first | decide | omega, ?_⟩, fun q2 => ⟨by first | decide | omega, ⟨fun q3 => ⟨by first | decide | omega, ?_⟩, fun q4 => ⟨by first | decide | omega, ?_⟩⟩⟩⟩
  · rw [if_neg (by omega)] at K; exact K
  · rw [if_neg (by omega)] at K; exact K
  · rw [if_pos (by omega)] at K; exact K
theorem c_Co_givenBy {o w a x s g : Int} {W : zWl} (ho : zco o) (hw : zwo w) (hW : Wok W) (hl : WL v w W) (ha : 0 ≤ a ∧ a < 24) (hx : v (o + 1) a = x) (hs : v (o + 3) a = s) (bx : 0 ≤ x ∧ x ≤ 99) (bs : 0 ≤ s ∧ s < wS W) (hg : x * wT W (3 * s + 2) / 10 = g) (K : Q g v) : zC l G 1 (d + 2) h_Co_givenBy [(2, o), (0, a), (2, w)] v 115 Q := by
  obtain ⟨c0, ⟨c1, c1'⟩, ⟨c2, c2'⟩, ⟨c3, c3'⟩, ⟨c4, c4'⟩, ⟨c5, c5'⟩, ⟨c6, c6'⟩, ⟨c7, c7'⟩, ⟨c8, c8'⟩⟩ := zco_f ho
  have hw' := hw
  obtain ⟨w0, w1, w3, w5, ⟨w7, w7'⟩, ⟨w8, w8'⟩, ⟨w9, w9'⟩, ⟨w10, w10'⟩, ⟨w11, w11'⟩, ⟨w12, w12'⟩⟩ := zwo_f hw
  refine zC_at ok_Co_givenBy ck_Co_givenBy rfl rfl (sg_Co_givenBy_0 ?_)
  refine ⟨by first | decide | omega, by first | decide | omega, ⟨by first | decide | omega, by first | decide | omega⟩, by first | decide | omega, by first | decide | omega, by first | decide | omega, ⟨by first | decide | omega, by first | decide | omega⟩, by first | decide | omega, ?_⟩
  rw [hs]
  refine n_st hw' hW hl bs (by omega) ?_
  obtain ⟨W1, W2, W3, W4, W5, W6, W7, W8, W9, WT, WV, WZ, WG⟩ := hW
  have b := (WT s bs.1 bs.2).2.2
  have m1 := Int.mul_nonneg bx.1 b.1
  have m2 : x * wT W (3 * s + 2) ≤ 99 * 10 := Int.mul_le_mul bx.2 b.2 b.1 (by omega)
  rw [hx]
  refine ⟨⟨by omega, by omega⟩, ?_⟩
  rw [ztd m1, hg]
  exact K
theorem sh_step {o w a m sum i : Int} {W : zWl} {QX : Nat → zH → Prop} (ho : zco o) (hw : zwo w) (hW : Wok W) (hb : v (w + 12) (a * 4 + i) = sd (wR W) (wC W) a i) (ha : 0 ≤ a ∧ a < wN W) (hm : 0 ≤ m ∧ m ≤ 1000) (hs : 0 ≤ sum ∧ sum ≤ 10000) (hi : 0 ≤ i ∧ i < 4) (hv : ∀ x : Int, 0 ≤ x → x < wN W → 0 ≤ v (o + 1) x ∧ v (o + 1) x ≤ 1000000)
    (K : ∀ v' : zH, (∀ b, b ≠ o + 1 → v' b = v b) → (∀ x : Int, 0 ≤ x → x < wN W → v' (o + 1) x = v (o + 1) x + if sd (wR W) (wC W) a i = x then m else 0) → zJ l G 1 (d + 1) h_Co_share k_Co_share 115 Q QX 4 [(2, o), (0, a), (0, m), (2, w), (0, sum + if sd (wR W) (wC W) a i = -1 then 0 else m), (0, i + 1), (3, 0)] [] v' 115) :
    zJ l G 1 (d + 1) h_Co_share k_Co_share 115 Q QX 4 [(2, o), (0, a), (0, m), (2, w), (0, sum), (0, i), (3, 0)] [] v 115 := by
  obtain ⟨c0, ⟨c1, c1'⟩, ⟨c2, c2'⟩, ⟨c3, c3'⟩, ⟨c4, c4'⟩, ⟨c5, c5'⟩, ⟨c6, c6'⟩, ⟨c7, c7'⟩, ⟨c8, c8'⟩⟩ := zco_f ho
  obtain ⟨w0, w1, w3, w5, ⟨w7, w7'⟩, ⟨w8, w8'⟩, ⟨w9, w9'⟩, ⟨w10, w10'⟩, ⟨w11, w11'⟩, ⟨w12, w12'⟩⟩ := zwo_f hw
  have hsd := sd_b (R := wR W) (C := wC W) (a := a) (i := i) hW.1 hW.2.1 (by rw [← hW.2.2.1]; exact ha)
  rw [← hW.2.2.1] at hsd
  have hN := hW.2.2.2.1
  refine zgo ck_Co_share 300 4 _ _ _ _ rfl (sg_Co_share_4 ?_)
  rw [hb]
  generalize sd (wR W) (wC W) a i = t at *
  by_cases q : t = -1
  · refine ⟨fun q1 => ?_, fun q2 => ⟨by first | decide | omega, ⟨by first | decide | omega, by first | decide | omega⟩, ⟨by first | decide | omega, by first | decide | omega⟩, by first | decide | omega, ⟨by first | decide | omega, by first | decide | omega⟩, ⟨fun q3 => ⟨⟨by first | decide | omega, by first | decide | omega⟩, ?_⟩, fun q4 => ⟨by first | decide | omega, by first | decide | omega, ⟨by first | decide | omega, by first | decide | omega⟩, ⟨by first | decide | omega, by first | decide | omega⟩, by first | decide | omega, ⟨by first | decide | omega, by first | decide | omega⟩, ⟨by first | decide | omega, by first | decide | omega⟩, ⟨by first | decide | omega, by first | decide | omega⟩, ?_⟩⟩⟩⟩
    try (any_goals (exfalso; omega))
    have := K v (fun _ _ => rfl) (fun x h1 h2 => by rw [if_neg (by omega)]; omega)
    rw [if_pos q] at this
    simpa using this
  · have hv' := hv t (by omega) (by omega)
    refine ⟨fun q1 => ?_, fun q2 => ⟨by first | decide | omega, ⟨by first | decide | omega, by first | decide | omega⟩, ⟨by first | decide | omega, by first | decide | omega⟩, by first | decide | omega, ⟨by first | decide | omega, by first | decide | omega⟩, ⟨fun q3 => ⟨⟨by first | decide | omega, by first | decide | omega⟩, ?_⟩, fun q4 => ⟨by first | decide | omega, by first | decide | omega, ⟨by first | decide | omega, by first | decide | omega⟩, ⟨by first | decide | omega, by first | decide | omega⟩, by first | decide | omega, ⟨by first | decide | omega, by first | decide | omega⟩, ⟨by first | decide | omega, by first | decide | omega⟩, ⟨by first | decide | omega, by first | decide | omega⟩, ?_⟩⟩⟩⟩
    try (any_goals (exfalso; omega))
    have := K (zupd v (o + 1) t (v (o + 1) t + m)) (fun b hb => zup_a hb) (fun x h1 h2 => by
      by_cases e : t = x
      · rw [if_pos e, ← e, zup_s]
      · rw [if_neg e, zup_j (by omega)]; omega)
    rw [if_neg q] at this
    exact this
theorem c_Co_share {o w a m : Int} {W : zWl} (ho : zco o) (hw : zwo w) (hW : Wok W) (hl : WL v w W) (ha : 0 ≤ a ∧ a < wN W) (hm : 0 ≤ m ∧ m ≤ 1000) (hv : ∀ x : Int, 0 ≤ x → x < wN W → 0 ≤ v (o + 1) x ∧ v (o + 1) x ≤ 100000)
    (K : ∀ v' : zH, (∀ b, b ≠ o + 1 → v' b = v b) → (∀ x : Int, 0 ≤ x → x < wN W → v' (o + 1) x = v (o + 1) x + if adj (wC W) a x then m else 0) → Q (m * sCnt W a) v') : zC l G 1 (d + 1) h_Co_share [(2, o), (0, a), (0, m), (2, w)] v 115 Q := by
  have hb := (hl.2.2.2.2.2.2.2.2.2 a ha.1 ha.2).2.2.2
  have ha' : 0 ≤ a ∧ a < wR W * wC W := by rw [← hW.2.2.1]; exact ha
  have hc := sd_cnt hW.1 hW.2.1 ha'
  have hc : sCnt W a = zsm (fun i => if sd (wR W) (wC W) a i = -1 then 0 else 1) 4 := by rw [← hc, ← hW.2.2.1]; rfl
  have hadj := fun x (hx : 0 ≤ x ∧ x < wN W) => sd_adj hW.1 hW.2.1 ha' (x := x) (by rw [← hW.2.2.1]; exact hx)
  refine zC_at ok_Co_share ck_Co_share rfl rfl (sg_Co_share_0 ?_)
  have bi : ∀ t x : Int, 0 ≤ (if t = x then m else 0) ∧ (if t = x then m else 0) ≤ 1000 := fun t x => by split <;> omega
  have bj : ∀ t x : Int, 0 ≤ (if t = x then 0 else m) ∧ (if t = x then 0 else m) ≤ 1000 := fun t x => by split <;> omega
  have j0 := bj (sd (wR W) (wC W) a 0) (-1)
  have j1 := bj (sd (wR W) (wC W) a (0 + 1)) (-1)
  have j2 := bj (sd (wR W) (wC W) a (0 + 1 + 1)) (-1)
  have j3 := bj (sd (wR W) (wC W) a (0 + 1 + 1 + 1)) (-1)
  refine sh_step ho hw hW (hb 0 (by omega) (by omega)) ha hm (by omega) (by omega) (fun x h1 h2 => by have := hv x h1 h2; omega) (fun v1 g1 g2 => ?_)
  refine sh_step ho hw hW (by rw [g1 _ (by omega)]; exact hb _ (by omega) (by omega)) ha hm (by omega) (by omega) (fun x h1 h2 => by
    have := hv x h1 h2
    have := g2 x h1 h2
    have := bi (sd (wR W) (wC W) a 0) x
    omega) (fun v2 g3 g4 => ?_)
  refine sh_step ho hw hW (by rw [g3 _ (by omega), g1 _ (by omega)]; exact hb _ (by omega) (by omega)) ha hm (by omega) (by omega) (fun x h1 h2 => by
    have := hv x h1 h2
    have := g2 x h1 h2
    have := g4 x h1 h2
    have := bi (sd (wR W) (wC W) a 0) x
    have := bi (sd (wR W) (wC W) a (0 + 1)) x
    omega) (fun v3 g5 g6 => ?_)
  refine sh_step ho hw hW (by rw [g5 _ (by omega), g3 _ (by omega), g1 _ (by omega)]; exact hb _ (by omega) (by omega)) ha hm (by omega) (by omega) (fun x h1 h2 => by
    have := hv x h1 h2
    have := g2 x h1 h2
    have := g4 x h1 h2
    have := g6 x h1 h2
    have := bi (sd (wR W) (wC W) a 0) x
    have := bi (sd (wR W) (wC W) a (0 + 1)) x
    have := bi (sd (wR W) (wC W) a (0 + 1 + 1)) x
    omega) (fun v4 g7 g8 => ?_)
  refine zgo ck_Co_share 300 4 _ _ _ _ rfl (sg_Co_share_4 ?_)
  refine ⟨fun q1 => ?_, fun q2 => ⟨by first | decide | omega, ⟨by first | decide | omega, by first | decide | omega⟩, ⟨by first | decide | omega, by first | decide | omega⟩, by first | decide | omega, ⟨by first | decide | omega, by first | decide | omega⟩, ⟨fun q3 => ⟨⟨by first | decide | omega, by first | decide | omega⟩, ?_⟩, fun q4 => ⟨by first | decide | omega, by first | decide | omega, ⟨by first | decide | omega, by first | decide | omega⟩, ⟨by first | decide | omega, by first | decide | omega⟩, by first | decide | omega, ⟨by first | decide | omega, by first | decide | omega⟩, ⟨by first | decide | omega, by first | decide | omega⟩, ⟨by first | decide | omega, by first | decide | omega⟩, ?_⟩⟩⟩⟩
  try (any_goals (exfalso; omega))
  have e1 : (0 + 1 : Int) = 1 := rfl
  have e2 : (0 + 1 + 1 : Int) = 2 := rfl
  have e3 : (0 + 1 + 1 + 1 : Int) = 3 := rfl
  rw [e3] at g8
  rw [e2] at g6
  rw [e1] at g4
  rw [e3, e2, e1]
  refine zQe (K v4 (fun b hb => by rw [g7 b hb, g5 b hb, g3 b hb, g1 b hb]) (fun x h1 h2 => ?_)) ?_
  · rw [g8 x h1 h2, g6 x h1 h2, g4 x h1 h2, g2 x h1 h2]
    have := hadj x ⟨h1, h2⟩
    generalize sd (wR W) (wC W) a 0 = t0 at *
    generalize sd (wR W) (wC W) a 1 = t1 at *
    generalize sd (wR W) (wC W) a 2 = t2 at *
    generalize sd (wR W) (wC W) a 3 = t3 at *
    by_cases q : adj (wC W) a x = true
    · rw [if_pos q] at this ⊢
      split at this <;> split at this <;> split at this <;> split at this <;> simp_all <;> omega
    · rw [if_neg q] at this ⊢
      split at this <;> split at this <;> split at this <;> split at this <;> simp_all <;> omega
  · rw [hc]
    have u : zsm (fun i => if sd (wR W) (wC W) a i = -1 then 0 else 1) 4 = 0 + (if sd (wR W) (wC W) a 0 = -1 then 0 else 1) + (if sd (wR W) (wC W) a 1 = -1 then 0 else 1) + (if sd (wR W) (wC W) a 2 = -1 then 0 else 1) + (if sd (wR W) (wC W) a 3 = -1 then 0 else 1) := rfl
    rw [u]
    split <;> split <;> split <;> split <;> omega
end
