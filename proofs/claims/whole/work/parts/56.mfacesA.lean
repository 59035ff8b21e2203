/-! THE REFERENCE: questions A -/
/-- k hours on, apart, from v0 -/
def MH (v0 v : zH) (W : zWl) (c : zCo) (S : zSk) (k : Nat) : Prop := Fz v0 v ∧ MQc v W (sSt W (sSn S) (kR S) c k) S ∧ MA v W c ∧ v 77 39 = v0 77 39 ∧ v 94 = v0 94 ∧ v 96 = v0 96
theorem MH_1 {v0 v v' : zH} {W : zWl} {c : zCo} {S : zSk} {k : Nat} {x : Int} (hx : (103 ≤ x ∧ x ≤ 106) ∨ (110 ≤ x ∧ x ≤ 112)) (h : ∀ b : Int, b ≠ x → v' b = v b) (m : MH v0 v W c S k) : MH v0 v' W c S k :=
  ⟨Fz_tr m.1 (Fz_1 (x := x) (by omega) h), MQc_1 (by omega) h m.2.1, MA_1 (by omega) h m.2.2.1, by rw [h 77 (by omega)]; exact m.2.2.2.1, by rw [h 94 (by omega)]; exact m.2.2.2.2.1, by rw [h 96 (by omega)]; exact m.2.2.2.2.2⟩
theorem zsm_swap {F : Int → Int → Int} {N : Nat} : ∀ n : Nat, zsm (fun a => zsm (fun k => F k a) n) N = zsm (fun k => zsm (fun a => F k a) N) n
  | 0 => by
    rw [zsm_0]
    exact zsm_zero (fun i _ _ => zsm_0)
  | n + 1 => by
    rw [zsm_s, ← zsm_swap n, ← zsm_add]
    exact zsm_ext (fun i _ _ => zsm_s)
theorem fd_min {f : Int → Int} {s : Int} (hs : f 0 ≤ s) : ∀ n : Nat, fd (fun m a => min m (f a)) s (n + 1) = sMinF f (n + 1)
  | 0 => by
    show min s (f 0) = min (f 0) (f 0)
    omega
  | n + 1 => by
    have := fd_min hs n
    show min (fd (fun m a => min m (f a)) s (n + 1)) _ = min (fd (fun m a => min m (f a)) (f 0) (n + 1)) _
    rw [this]
    rfl
theorem fd_max {f : Int → Int} {s : Int} (hs : s ≤ f 0) : ∀ n : Nat, fd (fun m a => max m (f a)) s (n + 1) = sMaxF f (n + 1)
  | 0 => by
    show max s (f 0) = max (f 0) (f 0)
    omega
  | n + 1 => by
    have := fd_max hs n
    show max (fd (fun m a => max m (f a)) s (n + 1)) _ = max (fd (fun m a => max m (f a)) (f 0) (n + 1)) _
    rw [this]
    rfl
section
variable {l : Launch} {G : zG} {d : Nat} {v : zH} {Q : Int → zH → Prop} {W : zWl} {c : zCo} {S : zSk}
theorem m_pa (hQ : MQc v W c S) (K : ∀ v' : zH, MH v v' W c S 0 → Q 0 v') : zC l G 1 (d + 2) h_M_putAside [(2, 77)] v 115 Q :=
  c_M_putAside hQ (fun v' f1 f2 f3 f4 f5 => K v' ⟨f1, f4, f5, f2 39 (by omega), f3 94 (by omega) (by omega), f3 96 (by omega) (by omega)⟩)
theorem m_ps {v0 : zH} {k : Nat} (h : MH v0 v W c S k) (hh : cH c + k < 1000000) (K : ∀ v' : zH, MH v0 v' W c S (k + 1) → (∀ a : Int, isc (wR W) (wC W) a = true → v' 100 a = sFk W (sSn S) (kR S) c k (ixn (wC W) a) ∧ v' 98 a = sGiv W (sSt W (sSn S) (kR S) c k) (ixn (wC W) a) / 4) → (∀ b : Int, 101 ≤ b → v' b = v b) → Q 0 v') : zC l G 1 (d + 6) h_M_pass [(2, 77)] v 115 Q := by
  have hh1 := sSt_H (W := W) (sn := sSn S) (rn := kR S) (c := c) k
  refine c_M_pass h.2.1 (by omega) (fun v' f1 f2 f3 => K v' ⟨Fz_tr h.1 (Fz_p f1), f2, MA_p f1 h.2.2.1, (f1.2 39 (by omega)).trans h.2.2.2.1, ?_, ?_⟩ f3 (fun b q => f1.1 b (by omega) (by omega) (by omega) (by omega) (by omega) (by omega) (by omega)))
  · rw [f1.1 94 (by omega) (by omega) (by omega) (by omega) (by omega) (by omega) (by omega)]; exact h.2.2.2.2.1
  · rw [f1.1 96 (by omega) (by omega) (by omega) (by omega) (by omega) (by omega) (by omega)]; exact h.2.2.2.2.2
theorem m_tb {v0 : zH} {k : Nat} (h : MH v0 v W c S k) (hc : Cok W c) (K : ∀ v' : zH, Fz v0 v' → MQc v' W c S → v' 77 39 = v0 77 39 → v' 94 = v0 94 → v' 96 = v0 96 → (∀ b : Int, b ≠ 77 → b ≠ 97 → v' b = v b) → Q 0 v') : zC l G 1 (d + 2) h_M_takeBack [(2, 77)] v 115 Q :=
  c_M_takeBack h.2.1 h.2.2.1 hc (sSt_k k) (fun v' f1 f2 f3 f4 => K v' (Fz_tr h.1 f1) f4 ((f2 39 (by omega)).trans h.2.2.2.1) ((f3 94 (by omega) (by omega)).trans h.2.2.2.2.1) ((f3 96 (by omega) (by omega)).trans h.2.2.2.2.2) f3)
theorem m_qtb {v0 : zH} {k : Nat} (hQ : QM v0 W c S) (h : MH v0 v W c S k) (K : ∀ v' : zH, Fz v0 v' → QM v' W c S → (∀ b : Int, b ≠ 77 → b ≠ 97 → v' b = v b) → Q 0 v') : zC l G 1 (d + 2) h_M_takeBack [(2, 77)] v 115 Q :=
  m_tb h hQ.1.2.2.1 (fun v' f1 f2 f3 _ _ f4 => K v' f1 ⟨f2, f3.trans hQ.2.1, hQ.2.2⟩ f4)
theorem c_M_areHours {n : Int} (hM : MW v W) (K : Q (if 0 < wR W ∧ (1 ≤ n ∧ n ≤ 72) then 1 else 0) v) : zC l G 1 (d + 2) h_M_areHours [(2, 77), (0, n)] v 115 Q := by
  by_cases h0 : 0 < wR W
  · refine zC_at ok_M_areHours ck_M_areHours rfl rfl (sg_M_areHours_0 ?_)
    try simp (disch := omega) only [zup_e, zup_ak, zup_j, Int.zero_add, Int.reduceAdd, mz78, mz79, mz80, mz81, mz82, mz83, mz84, mz85, mz86, mz87, mz88, mz89, mz90, mz91, mz92, mz93, mz94, mz95, mz96, mz97, mz98, mz99, mz100, mz101, mz102, mz103, mz104, mz105, mz106, mz107, mz108, mz109, mz110, mz111, mz112, mz113, hM.2.1]
    refine ⟨by first | decide | omega | contradiction | exact absurd trivial (by assumption), ⟨fun q1 => ⟨by first | decide | omega | contradiction | exact absurd trivial (by assumption), ?_⟩, fun q2 => ?_⟩⟩
    try (any_goals (exfalso; first | omega | exact absurd trivial (by assumption)))
    refine c_M_in ?_
    by_cases h1 : 1 ≤ n ∧ n ≤ 72
    · rw [if_pos ⟨h0, h1⟩] at K
      rw [if_pos h1]
      refine ⟨fun q1 => ⟨by first | decide | omega | contradiction | exact absurd trivial (by assumption), ?_⟩, fun q2 => ⟨by first | decide | omega | contradiction | exact absurd trivial (by assumption), ?_⟩⟩
      try (any_goals (exfalso; first | omega | exact absurd trivial (by assumption)))
      exact K
    · rw [if_neg (fun q => h1 q.2)] at K
      rw [if_neg h1]
      refine ⟨fun q1 => ⟨by first | decide | omega | contradiction | exact absurd trivial (by assumption), ?_⟩, fun q2 => ⟨by first | decide | omega | contradiction | exact absurd trivial (by assumption), ?_⟩⟩
      try (any_goals (exfalso; first | omega | exact absurd trivial (by assumption)))
      exact K
  · rw [if_neg (fun q => h0 q.1)] at K
    refine zC_at ok_M_areHours ck_M_areHours rfl rfl (sg_M_areHours_0 ?_)
    try simp (disch := omega) only [zup_e, zup_ak, zup_j, Int.zero_add, Int.reduceAdd, mz78, mz79, mz80, mz81, mz82, mz83, mz84, mz85, mz86, mz87, mz88, mz89, mz90, mz91, mz92, mz93, mz94, mz95, mz96, mz97, mz98, mz99, mz100, mz101, mz102, mz103, mz104, mz105, mz106, mz107, mz108, mz109, mz110, mz111, mz112, mz113, hM.2.1]
    refine ⟨by first | decide | omega | contradiction | exact absurd trivial (by assumption), ⟨fun q1 => ⟨by first | decide | omega | contradiction | exact absurd trivial (by assumption), ?_⟩, fun q2 => ?_⟩⟩
    try (any_goals (exfalso; first | omega | exact absurd trivial (by assumption)))
    exact K
theorem c_M_isSleeper {n : Int} (hW : Wok W) (hM : MW v W) (K : Q (if 0 ≤ n ∧ n < wZ W then 1 else 0) v) : zC l G 1 (d + 2) h_M_isSleeper [(2, 77), (0, n)] v 115 Q := by
  have h9 := hW.2.2.2.2.2.2.2.2.1
  refine zC_at ok_M_isSleeper ck_M_isSleeper rfl rfl (sg_M_isSleeper_0 ?_)
  try simp (disch := omega) only [zup_e, zup_ak, zup_j, Int.zero_add, Int.reduceAdd, mz78, mz79, mz80, mz81, mz82, mz83, mz84, mz85, mz86, mz87, mz88, mz89, mz90, mz91, mz92, mz93, mz94, mz95, mz96, mz97, mz98, mz99, mz100, mz101, mz102, mz103, mz104, mz105, mz106, mz107, mz108, mz109, mz110, mz111, mz112, mz113, hM.2.2.2.2.1]
  refine ⟨by first | decide | omega | contradiction | exact absurd trivial (by assumption), ⟨by first | decide | omega | contradiction | exact absurd trivial (by assumption), by first | decide | omega | contradiction | exact absurd trivial (by assumption)⟩, ?_⟩
  refine c_M_in ?_
  by_cases h1 : 0 ≤ n ∧ n < wZ W
  · rw [if_pos h1] at K
    rw [if_pos (by omega)]
    refine ⟨by first | decide | omega | contradiction | exact absurd trivial (by assumption), ?_⟩
    exact K
  · rw [if_neg h1] at K
    rw [if_neg (by omega)]
    refine ⟨by first | decide | omega | contradiction | exact absurd trivial (by assumption), ?_⟩
    exact K
theorem c_M_ahead {a n k : Int} (hQ : QM v W c S) (K : ∀ v' : zH, Fz v v' → QM v' W c S → Q (aAhead W S c a n k) v') : zC l G 1 (d + 9) h_M_ahead [(2, 77), (0, a), (0, n), (0, k)] v 115 Q := by
  obtain ⟨hW, hM, hc, hO, hk, hS⟩ := id hQ.1
  have hh := hQ.2.2
  unfold aAhead at K
  refine zC_at ok_M_ahead ck_M_ahead rfl rfl (sg_M_ahead_0 ?_)
  try simp (disch := omega) only [zup_e, zup_ak, zup_j, Int.zero_add, Int.reduceAdd, mz78, mz79, mz80, mz81, mz82, mz83, mz84, mz85, mz86, mz87, mz88, mz89, mz90, mz91, mz92, mz93, mz94, mz95, mz96, mz97, mz98, mz99, mz100, mz101, mz102, mz103, mz104, mz105, mz106, mz107, mz108, mz109, mz110, mz111, mz112, mz113]
  refine ⟨by first | decide | omega | contradiction | exact absurd trivial (by assumption), ?_⟩
  try (any_goals (exfalso; first | omega | exact absurd trivial (by assumption)))
  refine m_cell hM ?_
  by_cases ha : isc (wR W) (wC W) a = true
  rotate_left
  · rw [if_neg ha]
    rw [if_neg (fun q => ha q.1)] at K
    refine ⟨fun q1 => ?_, fun q2 => ⟨by first | decide | omega | contradiction | exact absurd trivial (by assumption), ?_⟩⟩
    try (any_goals (exfalso; first | omega | exact absurd trivial (by assumption)))
    exact K v Fz_rf hQ
  rw [if_pos ha]
  have h36 := is36 hW ha
  have hR : 0 < wR W := by
    have := gE hW.1.2 hW.2.1 ha
    omega
  refine ⟨fun q1 => ?_, fun q2 => ⟨by first | decide | omega | contradiction | exact absurd trivial (by assumption), ?_⟩⟩
  try (any_goals (exfalso; first | omega | exact absurd trivial (by assumption)))
  refine c_M_areHours hM ?_
  by_cases hn : 1 ≤ n ∧ n ≤ 72
  rotate_left
  · rw [if_neg (fun q => hn q.2)]
    rw [if_neg (fun q => hn q.2.1)] at K
    refine ⟨fun q1 => ?_, fun q2 => ?_⟩
    try (any_goals (exfalso; first | omega | exact absurd trivial (by assumption)))
    exact K v Fz_rf hQ
  rw [if_pos ⟨hR, hn⟩]
  refine ⟨fun q1 => ?_, fun q2 => ?_⟩
  try (any_goals (exfalso; first | omega | exact absurd trivial (by assumption)))
  refine c_M_in ?_
  by_cases hk1 : 0 ≤ k ∧ k ≤ 1
  rotate_left
  · rw [if_neg hk1]
    rw [if_neg (fun q => hk1 q.2.2)] at K
    refine ⟨fun q1 => ⟨by first | decide | omega | contradiction | exact absurd trivial (by assumption), ?_⟩, fun q2 => ?_⟩
    try (any_goals (exfalso; first | omega | exact absurd trivial (by assumption)))
    exact K v Fz_rf hQ
  rw [if_pos hk1]
  rw [if_pos ⟨ha, hn, hk1⟩] at K
  obtain ⟨m, rfl⟩ : ∃ m : Nat, n = m := ⟨n.toNat, by omega⟩
  rw [Int.toNat_natCast] at K
  refine ⟨fun q1 => ⟨by first | decide | omega | contradiction | exact absurd trivial (by assumption), ?_⟩, fun q2 => ?_⟩
  try (any_goals (exfalso; first | omega | exact absurd trivial (by assumption)))
  refine m_pa hQ.1 (fun v1 g1 => ?_)
  refine ⟨by first | decide | omega | contradiction | exact absurd trivial (by assumption), ?_⟩
  try (any_goals (exfalso; first | omega | exact absurd trivial (by assumption)))
  refine c_M_passAll g1.2.1 (by have : cH (sSt W (sSn S) (kR S) c 0) = cH c := rfl; omega) (by omega) (fun v2 f1 f2 f3 => ?_)
  have f2 : MQc v2 W (sSt W (sSn S) (kR S) c m) S := f2
  have e0 : ∀ j, sFk W (sSn S) (kR S) (sSt W (sSn S) (kR S) c 0) j (ixn (wC W) a) = sFk W (sSn S) (kR S) c j (ixn (wC W) a) := fun _ => rfl
  have g2 : MH v v2 W c S m := ⟨Fz_tr g1.1 (Fz_p f1), f2, MA_p f1 g1.2.2.1, (f1.2 39 (by omega)).trans g1.2.2.2.1, by rw [f1.1 94 (by omega) (by omega) (by omega) (by omega) (by omega) (by omega) (by omega)]; exact g1.2.2.2.2.1, by rw [f1.1 96 (by omega) (by omega) (by omega) (by omega) (by omega) (by omega) (by omega)]; exact g1.2.2.2.2.2⟩
  by_cases hk0 : k = 0
  · rw [if_pos hk0] at K
    have e := (f2.2.2.2.1.2.1 a ha).1
    show _
    simp only [e]
    refine ⟨fun q1 => ⟨by first | decide | omega | contradiction | exact absurd trivial (by assumption), by first | decide | omega | contradiction | exact absurd trivial (by assumption), ⟨by first | decide | omega | contradiction | exact absurd trivial (by assumption), by first | decide | omega | contradiction | exact absurd trivial (by assumption)⟩, by first | decide | omega | contradiction | exact absurd trivial (by assumption), ?_⟩, fun q2 => ⟨by first | decide | omega | contradiction | exact absurd trivial (by assumption), by first | decide | omega | contradiction | exact absurd trivial (by assumption), ⟨by first | decide | omega | contradiction | exact absurd trivial (by assumption), by first | decide | omega | contradiction | exact absurd trivial (by assumption)⟩, by first | decide | omega | contradiction | exact absurd trivial (by assumption), ?_⟩⟩
    try (any_goals (exfalso; first | omega | exact absurd trivial (by assumption)))
    refine m_qtb hQ g2 (fun v3 y1 y2 _ => ?_)
    exact K v3 y1 y2
  · rw [if_neg hk0, ← e0] at K
    have e := f3 (by omega) a ha
    show _
    simp only [e]
    refine ⟨fun q1 => ⟨by first | decide | omega | contradiction | exact absurd trivial (by assumption), by first | decide | omega | contradiction | exact absurd trivial (by assumption), ⟨by first | decide | omega | contradiction | exact absurd trivial (by assumption), by first | decide | omega | contradiction | exact absurd trivial (by assumption)⟩, by first | decide | omega | contradiction | exact absurd trivial (by assumption), ?_⟩, fun q2 => ⟨by first | decide | omega | contradiction | exact absurd trivial (by assumption), by first | decide | omega | contradiction | exact absurd trivial (by assumption), ⟨by first | decide | omega | contradiction | exact absurd trivial (by assumption), by first | decide | omega | contradiction | exact absurd trivial (by assumption)⟩, by first | decide | omega | contradiction | exact absurd trivial (by assumption), ?_⟩⟩
    try (any_goals (exfalso; first | omega | exact absurd trivial (by assumption)))
    refine m_qtb hQ g2 (fun v3 y1 y2 _ => ?_)
    exact K v3 y1 y2
-- all that is felt
theorem ao_13 {n k t : Int} {f : Int → Int} {QX : Nat → zH → Prop} (hW : Wok W) (hM : MW v W) (hk : 0 ≤ k ∧ k ≤ 100) (ht : 0 ≤ t ∧ t ≤ 100000000) (hf : ∀ a : Int, isc (wR W) (wC W) a = true → v 100 a = f (ixn (wC W) a) ∧ 0 ≤ f (ixn (wC W) a) ∧ f (ixn (wC W) a) ≤ 4000)
    (K : zJ l G 1 (d + 8) h_M_airOf k_M_airOf 115 Q QX 6 [(2, 77), (0, n), (0, t + zsm f (wN W).toNat), (0, k + 1), (3, 0)] [] v 115) :
    ∀ (m i : Nat), i + m = 36 → zJ l G 1 (d + 8) h_M_airOf k_M_airOf 115 Q QX 13 [(2, 77), (0, n), (0, t + zsm (fun o => if isc (wR W) (wC W) o = true then f (ixn (wC W) o) else 0) i), (0, k), (0, (i : Int))] [] v 115
  | m, i, hi => by
    have hb := zsm_b (f := fun o => if isc (wR W) (wC W) o = true then f (ixn (wC W) o) else 0) (k := 4000) i (fun o _ _ => by
      split
      · rename_i q
        have := hf o q
        omega
      · omega)
    match m, hi with
    | 0, hi =>
      rw [show i = 36 by omega] at hb ⊢
      rw [zsm_nm hW.1 hW.2.1, ← hW.2.2.1]
      refine zgo ck_M_airOf 300 13 _ _ _ _ rfl (sg_M_airOf_13 ?_)
      try simp (disch := omega) only [zup_e, zup_ak, zup_j, Int.zero_add, Int.reduceAdd, mz78, mz79, mz80, mz81, mz82, mz83, mz84, mz85, mz86, mz87, mz88, mz89, mz90, mz91, mz92, mz93, mz94, mz95, mz96, mz97, mz98, mz99, mz100, mz101, mz102, mz103, mz104, mz105, mz106, mz107, mz108, mz109, mz110, mz111, mz112, mz113]
      refine ⟨fun q1 => ⟨⟨by first | decide | omega | contradiction | exact absurd trivial (by assumption), by first | decide | omega | contradiction | exact absurd trivial (by assumption)⟩, ?_⟩, fun q2 => ⟨by first | decide | omega | contradiction | exact absurd trivial (by assumption), ?_⟩⟩
      try (any_goals (exfalso; first | omega | exact absurd trivial (by assumption)))
      exact K
    | m + 1, hi =>
      have es := zsm_s (g := fun o => if isc (wR W) (wC W) o = true then f (ixn (wC W) o) else 0) (n := i)
      have g := ao_13 (QX := QX) hW hM hk ht hf K m (i + 1) (by omega)
      rw [es] at g
      refine zgo ck_M_airOf 300 13 _ _ _ _ rfl (sg_M_airOf_13 ?_)
      try simp (disch := omega) only [zup_e, zup_ak, zup_j, Int.zero_add, Int.reduceAdd, mz78, mz79, mz80, mz81, mz82, mz83, mz84, mz85, mz86, mz87, mz88, mz89, mz90, mz91, mz92, mz93, mz94, mz95, mz96, mz97, mz98, mz99, mz100, mz101, mz102, mz103, mz104, mz105, mz106, mz107, mz108, mz109, mz110, mz111, mz112, mz113]
      refine ⟨fun q1 => ⟨⟨by first | decide | omega | contradiction | exact absurd trivial (by assumption), by first | decide | omega | contradiction | exact absurd trivial (by assumption)⟩, ?_⟩, fun q2 => ⟨by first | decide | omega | contradiction | exact absurd trivial (by assumption), ?_⟩⟩
      try (any_goals (exfalso; first | omega | exact absurd trivial (by assumption)))
      refine m_cell hM ?_
      by_cases hc : isc (wR W) (wC W) i = true
      · have h36 := is36 hW hc
        have e := hf i hc
        rw [if_pos hc] at g ⊢
        rw [← Int.add_assoc] at g
        show _
        simp only [e.1]
        refine ⟨fun q1 => ⟨⟨by first | decide | omega | contradiction | exact absurd trivial (by assumption), by first | decide | omega | contradiction | exact absurd trivial (by assumption)⟩, ⟨by first | decide | omega | contradiction | exact absurd trivial (by assumption), by first | decide | omega | contradiction | exact absurd trivial (by assumption)⟩, ?_⟩, fun q2 => ⟨by first | decide | omega | contradiction | exact absurd trivial (by assumption), by first | decide | omega | contradiction | exact absurd trivial (by assumption), ⟨by first | decide | omega | contradiction | exact absurd trivial (by assumption), by first | decide | omega | contradiction | exact absurd trivial (by assumption)⟩, ⟨by first | decide | omega | contradiction | exact absurd trivial (by assumption), by first | decide | omega | contradiction | exact absurd trivial (by assumption)⟩, ⟨by first | decide | omega | contradiction | exact absurd trivial (by assumption), by first | decide | omega | contradiction | exact absurd trivial (by assumption)⟩, ?_⟩⟩
        try (any_goals (exfalso; first | omega | exact absurd trivial (by assumption)))
        exact g
      · rw [if_neg hc] at g ⊢
        rw [← Int.add_assoc] at g
        refine ⟨fun q1 => ⟨⟨by first | decide | omega | contradiction | exact absurd trivial (by assumption), by first | decide | omega | contradiction | exact absurd trivial (by assumption)⟩, ⟨by first | decide | omega | contradiction | exact absurd trivial (by assumption), by first | decide | omega | contradiction | exact absurd trivial (by assumption)⟩, ?_⟩, fun q2 => ⟨by first | decide | omega | contradiction | exact absurd trivial (by assumption), by first | decide | omega | contradiction | exact absurd trivial (by assumption), ⟨by first | decide | omega | contradiction | exact absurd trivial (by assumption), by first | decide | omega | contradiction | exact absurd trivial (by assumption)⟩, ⟨by first | decide | omega | contradiction | exact absurd trivial (by assumption), by first | decide | omega | contradiction | exact absurd trivial (by assumption)⟩, ⟨by first | decide | omega | contradiction | exact absurd trivial (by assumption), by first | decide | omega | contradiction | exact absurd trivial (by assumption)⟩, ?_⟩⟩
        try (any_goals (exfalso; first | omega | exact absurd trivial (by assumption)))
        exact g
theorem ao_6 {n : Nat} {v0 : zH} {QX : Nat → zH → Prop} (hW : Wok W) (hc : Cok W c) (hn : n ≤ 72) (hh : cH c + n ≤ 1000000) (K : ∀ v' : zH, Fz v0 v' → MQc v' W c S → v' 77 39 = v0 77 39 → v' 94 = v0 94 → v' 96 = v0 96 → Q (sAir W (sSn S) (kR S) c n) v') :
    ∀ (m k : Nat) {v : zH}, k + m = n → MH v0 v W c S k → zJ l G 1 (d + 8) h_M_airOf k_M_airOf 115 Q QX 6 [(2, 77), (0, (n : Int)), (0, zsm (fun k => zsm (fun a => sFk W (sSn S) (kR S) c k.toNat a) (wN W).toNat) k), (0, (k : Int)), (3, 0)] [] v 115
  | m, k, v, hk, hH => by
    have hN := hW.2.2.2.1
    have hb := zsm_b (f := fun k => zsm (fun a => sFk W (sSn S) (kR S) c k.toNat a) (wN W).toNat) (k := 96000) k (fun i i1 i2 => by
      have := zsm_b (f := fun a => sFk W (sSn S) (kR S) c i.toNat a) (k := 4000) (wN W).toNat (fun a a1 a2 => sFk_b snOk_S hW hc (by omega) a1 (by omega))
      omega)
    match m, hk with
    | 0, hk =>
      have e : k = n := by omega
      subst e
      have ea : sAir W (sSn S) (kR S) c k = zsm (fun k => zsm (fun a => sFk W (sSn S) (kR S) c k.toNat a) (wN W).toNat) k := by
        unfold sAir
        rw [← zsm_swap]
        rfl
      rw [← ea] at hb ⊢
      refine zgo ck_M_airOf 300 6 _ _ _ _ rfl (sg_M_airOf_6 ?_)
      try simp (disch := omega) only [zup_e, zup_ak, zup_j, Int.zero_add, Int.reduceAdd, mz78, mz79, mz80, mz81, mz82, mz83, mz84, mz85, mz86, mz87, mz88, mz89, mz90, mz91, mz92, mz93, mz94, mz95, mz96, mz97, mz98, mz99, mz100, mz101, mz102, mz103, mz104, mz105, mz106, mz107, mz108, mz109, mz110, mz111, mz112, mz113]
      refine ⟨fun q1 => ⟨by first | decide | omega | contradiction | exact absurd trivial (by assumption), ?_⟩, fun q2 => ⟨by first | decide | omega | contradiction | exact absurd trivial (by assumption), ?_⟩⟩
      try (any_goals (exfalso; first | omega | exact absurd trivial (by assumption)))
      refine m_tb hH hc (fun v1 f1 f2 f3 f4 f5 f6 => ?_)
      exact K v1 f1 f2 f3 f4 f5
    | m + 1, hk =>
      have es := zsm_s (g := fun k => zsm (fun a => sFk W (sSn S) (kR S) c k.toNat a) (wN W).toNat) (n := k)
      refine zgo ck_M_airOf 300 6 _ _ _ _ rfl (sg_M_airOf_6 ?_)
      try simp (disch := omega) only [zup_e, zup_ak, zup_j, Int.zero_add, Int.reduceAdd, mz78, mz79, mz80, mz81, mz82, mz83, mz84, mz85, mz86, mz87, mz88, mz89, mz90, mz91, mz92, mz93, mz94, mz95, mz96, mz97, mz98, mz99, mz100, mz101, mz102, mz103, mz104, mz105, mz106, mz107, mz108, mz109, mz110, mz111, mz112, mz113]
      refine ⟨fun q1 => ⟨by first | decide | omega | contradiction | exact absurd trivial (by assumption), ?_⟩, fun q2 => ⟨by first | decide | omega | contradiction | exact absurd trivial (by assumption), ?_⟩⟩
      try (any_goals (exfalso; first | omega | exact absurd trivial (by assumption)))
      refine m_ps hH (by omega) (fun v1 f1 f2 f3 => ?_)
      have gK : zJ l G 1 (d + 8) h_M_airOf k_M_airOf 115 Q QX 6 [(2, 77), (0, (n : Int)), (0, zsm (fun k => zsm (fun a => sFk W (sSn S) (kR S) c k.toNat a) (wN W).toNat) k + zsm (fun a => sFk W (sSn S) (kR S) c k a) (wN W).toNat), (0, (k : Int) + 1), (3, 0)] [] v1 115 := by
        have g := ao_6 (QX := QX) hW hc hn hh K m (k + 1) (by omega) f1
        rw [es, Int.toNat_natCast] at g
        exact g
      have g13 := ao_13 (f := fun a => sFk W (sSn S) (kR S) c k a) (k := (k : Int)) hW f1.2.1.2.1 (by omega) (by omega) (fun a ha => ⟨(f2 a ha).1, by
        have h36 := is36 hW ha
        exact sFk_b snOk_S hW hc (by omega) h36.2.2.1 h36.2.2.2⟩) gK 36 0 (by omega)
      rw [zsm_0, Int.add_zero] at g13
      exact g13
theorem c_M_airOf {n : Nat} (hQ : MQc v W c S) (hn : n ≤ 72) (hh : cH c + n ≤ 1000000) (K : ∀ v' : zH, Fz v v' → MQc v' W c S → v' 77 39 = v 77 39 → v' 94 = v 94 → v' 96 = v 96 → Q (sAir W (sSn S) (kR S) c n) v') : zC l G 1 (d + 8) h_M_airOf [(2, 77), (0, (n : Int))] v 115 Q := by
  refine zC_at ok_M_airOf ck_M_airOf rfl rfl (sg_M_airOf_0 ?_)
  try simp (disch := omega) only [zup_e, zup_ak, zup_j, Int.zero_add, Int.reduceAdd, mz78, mz79, mz80, mz81, mz82, mz83, mz84, mz85, mz86, mz87, mz88, mz89, mz90, mz91, mz92, mz93, mz94, mz95, mz96, mz97, mz98, mz99, mz100, mz101, mz102, mz103, mz104, mz105, mz106, mz107, mz108, mz109, mz110, mz111, mz112, mz113]
  refine ⟨by first | decide | omega | contradiction | exact absurd trivial (by assumption), ?_⟩
  refine m_pa hQ (fun v1 g1 => ?_)
  exact ao_6 hQ.1 hQ.2.2.1 hn hh K n 0 (by omega) g1
theorem c_M_air {n : Int} (hQ : QM v W c S) (K : ∀ v' : zH, Fz v v' → QM v' W c S → Q (aAir W S c n) v') : zC l G 1 (d + 9) h_M_air [(2, 77), (0, n)] v 115 Q := by
  have hh := hQ.2.2
  unfold aAir at K
  refine zC_at ok_M_air ck_M_air rfl rfl (sg_M_air_0 ?_)
  try simp (disch := omega) only [zup_e, zup_ak, zup_j, Int.zero_add, Int.reduceAdd, mz78, mz79, mz80, mz81, mz82, mz83, mz84, mz85, mz86, mz87, mz88, mz89, mz90, mz91, mz92, mz93, mz94, mz95, mz96, mz97, mz98, mz99, mz100, mz101, mz102, mz103, mz104, mz105, mz106, mz107, mz108, mz109, mz110, mz111, mz112, mz113]
  refine ⟨by first | decide | omega | contradiction | exact absurd trivial (by assumption), ?_⟩
  try (any_goals (exfalso; first | omega | exact absurd trivial (by assumption)))
  refine c_M_areHours hQ.1.2.1 ?_
  by_cases hn : 0 < wR W ∧ (1 ≤ n ∧ n ≤ 72)
  rotate_left
  · rw [if_neg hn] at K ⊢
    refine ⟨fun q1 => ?_, fun q2 => ⟨by first | decide | omega | contradiction | exact absurd trivial (by assumption), ?_⟩⟩
    try (any_goals (exfalso; first | omega | exact absurd trivial (by assumption)))
    exact K v Fz_rf hQ
  rw [if_pos hn] at K ⊢
  obtain ⟨hR, hn⟩ := hn
  obtain ⟨m, rfl⟩ : ∃ m : Nat, n = m := ⟨n.toNat, by omega⟩
  rw [Int.toNat_natCast] at K
  refine ⟨fun q1 => ?_, fun q2 => ⟨by first | decide | omega | contradiction | exact absurd trivial (by assumption), ?_⟩⟩
  try (any_goals (exfalso; first | omega | exact absurd trivial (by assumption)))
  refine c_M_airOf hQ.1 (by omega) (by omega) (fun v1 f1 f2 f3 f4 f5 => ?_)
  exact K v1 f1 ⟨f2, f3.trans hQ.2.1, hQ.2.2⟩
theorem c_M_without {o n : Int} (hQ : QM v W c S) (K : ∀ v' : zH, Fz v v' → QM v' W c S → Q (aWithout W S c o n) v') : zC l G 1 (d + 9) h_M_without [(2, 77), (0, o), (0, n)] v 115 Q := by
  obtain ⟨hW, hM, hc, hO, hk, hS⟩ := id hQ.1
  have hh := hQ.2.2
  have hO3 := hW.2.2.2.2.2.2.2.1
  unfold aWithout at K
  refine zC_at ok_M_without ck_M_without rfl rfl (sg_M_without_0 ?_)
  try simp (disch := omega) only [zup_e, zup_ak, zup_j, Int.zero_add, Int.reduceAdd, mz78, mz79, mz80, mz81, mz82, mz83, mz84, mz85, mz86, mz87, mz88, mz89, mz90, mz91, mz92, mz93, mz94, mz95, mz96, mz97, mz98, mz99, mz100, mz101, mz102, mz103, mz104, mz105, mz106, mz107, mz108, mz109, mz110, mz111, mz112, mz113, hM.2.2.2.1]
  refine ⟨by first | decide | omega | contradiction | exact absurd trivial (by assumption), ⟨by first | decide | omega | contradiction | exact absurd trivial (by assumption), by first | decide | omega | contradiction | exact absurd trivial (by assumption)⟩, ?_⟩
  try (any_goals (exfalso; first | omega | exact absurd trivial (by assumption)))
  refine c_M_in ?_
  by_cases ho : 0 ≤ o ∧ o < wO W
  rotate_left
  · rw [if_neg (by omega)]
    rw [if_neg (fun q => ho q.1)] at K
    refine ⟨fun q1 => ?_, fun q2 => ⟨by first | decide | omega | contradiction | exact absurd trivial (by assumption), ?_⟩⟩
    try (any_goals (exfalso; first | omega | exact absurd trivial (by assumption)))
    exact K v Fz_rf hQ
  rw [if_pos (by omega)]
  have hR : 0 < wR W := by
    have := hW.2.2.2.2.2.2.2.2.2.2.1 o ho.1 ho.2
    omega
  refine ⟨fun q1 => ?_, fun q2 => ⟨by first | decide | omega | contradiction | exact absurd trivial (by assumption), ?_⟩⟩
  try (any_goals (exfalso; first | omega | exact absurd trivial (by assumption)))
  refine c_M_areHours hM ?_
  by_cases hn : 1 ≤ n ∧ n ≤ 72
  rotate_left
  · rw [if_neg (fun q => hn q.2)]
    rw [if_neg (fun q => hn q.2)] at K
    refine ⟨fun q1 => ⟨by first | decide | omega | contradiction | exact absurd trivial (by assumption), ?_⟩, fun q2 => ?_⟩
    try (any_goals (exfalso; first | omega | exact absurd trivial (by assumption)))
    exact K v Fz_rf hQ
  rw [if_pos ⟨hR, hn⟩]
  rw [if_pos ⟨ho, hn⟩] at K
  obtain ⟨m, rfl⟩ : ∃ m : Nat, n = m := ⟨n.toNat, by omega⟩
  rw [Int.toNat_natCast] at K
  refine ⟨fun q1 => ⟨by first | decide | omega | contradiction | exact absurd trivial (by assumption), ?_⟩, fun q2 => ?_⟩
  try (any_goals (exfalso; first | omega | exact absurd trivial (by assumption)))
  refine c_M_airOf hQ.1 (by omega) (by omega) (fun v1 f1 f2 f3 f4 f5 => ?_)
  refine ⟨by first | decide | omega | contradiction | exact absurd trivial (by assumption), by first | decide | omega | contradiction | exact absurd trivial (by assumption), ?_⟩
  have hoff : Cok W (cOff c o) := Cok_off hc
  have q2 : MQc (zupd v1 77 39 o) W (cOff c o) S := by
    obtain ⟨hW1, hM1, hc1, hO1, hk1, hS1⟩ := f2
    refine ⟨hW1, MW_fr (fun j j1 j2 => zup_j (by omega)) (zup_a (by omega)) (fun o _ _ => by rw [zup_a (by omega)]; exact ⟨rfl, rfl, rfl⟩) (zup_a (by omega)) hM1, hoff, ⟨(zup_j (by omega)).trans hO1.1, fun a ha => ?_, fun k k1 k2 => ⟨fun e => ?_, fun e => ?_⟩⟩, hk1, MS_fr ⟨zup_j (by omega), zup_j (by omega), zup_j (by omega)⟩ (zup_a (by omega)) (zup_a (by omega)) (zup_a (by omega)) (zup_a (by omega)) (zup_a (by omega)) (zup_a (by omega)) hS1⟩
    · rw [zup_a (by omega), zup_a (by omega)]
      exact hO1.2.1 a ha
    · rw [zup_s] at e
      show upf (cF c) o 0 k = upf (cU c) o 0 k
      rw [e, upf_s, upf_s]
    · rw [zup_s] at e
      show _ = upf (cF c) o 0 k ∧ _ = upf (cU c) o 0 k
      rw [upf_n e, upf_n e, zup_a (by omega)]
      exact (hO1.2.2 k k1 k2).2 (by rw [f3, hQ.2.1]; omega)
  have b1 := sAir_b (n := m) (sn := sSn S) (rn := kR S) snOk_S hW hc (by omega) (by omega)
  have b2 := sAir_b (n := m) (sn := sSn S) (rn := kR S) snOk_S hW hoff (by show cH c + m ≤ 1000000; omega) (by omega)
  refine c_M_airOf q2 (by omega) (by show cH c + m ≤ 1000000; omega) (fun v2 g1 g2 g3 g4 g5 => ?_)
  refine ⟨by first | decide | omega | contradiction | exact absurd trivial (by assumption), ⟨by first | decide | omega | contradiction | exact absurd trivial (by assumption), by first | decide | omega | contradiction | exact absurd trivial (by assumption)⟩, ?_⟩
  obtain ⟨hW1, hM1, hc1, hO1, hk1, hS1⟩ := g2
  have e94 : v2 94 = v 94 := by rw [g4, zup_a (by omega), f4]
  refine K _ (Fz_tr f1 (Fz_tr (v := zupd v1 77 39 o) ⟨fun b q => zup_a (by omega), fun k _ _ q _ _ _ => zup_j q⟩ (Fz_tr g1 ⟨fun b q => zup_a (by omega), fun k _ _ q _ _ _ => zup_j q⟩))) ⟨⟨hW, MW_fr (fun j j1 j2 => zup_j (by omega)) (zup_a (by omega)) (fun o _ _ => by rw [zup_a (by omega)]; exact ⟨rfl, rfl, rfl⟩) (zup_a (by omega)) hM1, hc, ⟨(zup_j (by omega)).trans hO1.1, fun a ha => ?_, fun k k1 k2 => ?_⟩, hk, MS_fr ⟨zup_j (by omega), zup_j (by omega), zup_j (by omega)⟩ (zup_a (by omega)) (zup_a (by omega)) (zup_a (by omega)) (zup_a (by omega)) (zup_a (by omega)) (zup_a (by omega)) hS1⟩, zup_s, hh⟩
  · rw [zup_a (by omega), zup_a (by omega)]
    exact hO1.2.1 a ha
  · rw [zup_s, zup_a (by omega), e94]
    have := hO.2.2 k k1 k2
    rw [hQ.2.1] at this
    exact this
theorem c_M_comfort {z a : Int} (hQ : QM v W c S) (K : ∀ v' : zH, Fz v v' → QM v' W c S → Q (aComfort W S c z a) v') : zC l G 1 (d + 9) h_M_comfort [(2, 77), (0, z), (0, a)] v 115 Q := by
  obtain ⟨hW, hM, hc, hO, hk, hS⟩ := id hQ.1
  have hh := hQ.2.2
  have h5 := hW.2.2.2.2.2.2.2.2.1
  unfold aComfort at K
  refine zC_at ok_M_comfort ck_M_comfort rfl rfl (sg_M_comfort_0 ?_)
  try simp (disch := omega) only [zup_e, zup_ak, zup_j, Int.zero_add, Int.reduceAdd, mz78, mz79, mz80, mz81, mz82, mz83, mz84, mz85, mz86, mz87, mz88, mz89, mz90, mz91, mz92, mz93, mz94, mz95, mz96, mz97, mz98, mz99, mz100, mz101, mz102, mz103, mz104, mz105, mz106, mz107, mz108, mz109, mz110, mz111, mz112, mz113]
  refine ⟨by first | decide | omega | contradiction | exact absurd trivial (by assumption), ?_⟩
  try (any_goals (exfalso; first | omega | exact absurd trivial (by assumption)))
  refine c_M_isSleeper hW hM ?_
  by_cases hz : 0 ≤ z ∧ z < wZ W
  rotate_left
  · rw [if_neg hz]
    rw [if_neg (fun q => hz q.1)] at K
    refine ⟨fun q1 => ?_, fun q2 => ⟨by first | decide | omega | contradiction | exact absurd trivial (by assumption), ?_⟩⟩
    try (any_goals (exfalso; first | omega | exact absurd trivial (by assumption)))
    exact K v Fz_rf hQ
  rw [if_pos hz]
  refine ⟨fun q1 => ?_, fun q2 => ⟨by first | decide | omega | contradiction | exact absurd trivial (by assumption), ?_⟩⟩
  try (any_goals (exfalso; first | omega | exact absurd trivial (by assumption)))
  refine m_cell hM ?_
  by_cases ha : isc (wR W) (wC W) a = true
  rotate_left
  · rw [if_neg ha]
    rw [if_neg (fun q => ha q.2)] at K
    refine ⟨fun q1 => ⟨by first | decide | omega | contradiction | exact absurd trivial (by assumption), ?_⟩, fun q2 => ?_⟩
    try (any_goals (exfalso; first | omega | exact absurd trivial (by assumption)))
    exact K v Fz_rf hQ
  rw [if_pos ha]
  rw [if_pos ⟨hz, ha⟩] at K
  have h36 := is36 hW ha
  refine ⟨fun q1 => ⟨by first | decide | omega | contradiction | exact absurd trivial (by assumption), ?_⟩, fun q2 => ?_⟩
  try (any_goals (exfalso; first | omega | exact absurd trivial (by assumption)))
  refine c_M_layNight hQ.1 (by omega) (fun v1 f1 f2 f3 f4 f5 f6 f7 => ?_)
  have e1 := f7 a ha
  have e2 : v1 95 (2 * z + 1) = wL W (2 * z + 1) := f6.2.1.2.2.2.2.2.2.2 _ (by omega) (by omega)
  have b1 := sNi_b (a := ixn (wC W) a) (rn := kR S) (sn := sSn S) snOk_S hW hc (by omega) h36.2.2.1 h36.2.2.2
  have b2 := hW.2.2.2.2.2.2.2.2.2.2.2.1 z hz.1 hz.2
  show _
  simp only [e1, e2]
  refine ⟨by first | decide | omega | contradiction | exact absurd trivial (by assumption), by first | decide | omega | contradiction | exact absurd trivial (by assumption), ⟨by first | decide | omega | contradiction | exact absurd trivial (by assumption), by first | decide | omega | contradiction | exact absurd trivial (by assumption)⟩, by first | decide | omega | contradiction | exact absurd trivial (by assumption), ⟨by first | decide | omega | contradiction | exact absurd trivial (by assumption), by first | decide | omega | contradiction | exact absurd trivial (by assumption)⟩, ⟨by first | decide | omega | contradiction | exact absurd trivial (by assumption), by first | decide | omega | contradiction | exact absurd trivial (by assumption)⟩, by first | decide | omega | contradiction | exact absurd trivial (by assumption), ⟨by first | decide | omega | contradiction | exact absurd trivial (by assumption), by first | decide | omega | contradiction | exact absurd trivial (by assumption)⟩, ⟨by first | decide | omega | contradiction | exact absurd trivial (by assumption), by first | decide | omega | contradiction | exact absurd trivial (by assumption)⟩, ?_⟩
  exact K v1 f1 ⟨f6, (f2 39 (by omega) (by omega)).trans hQ.2.1, hh⟩
theorem sn_4 {f : Int → Int} {QX : Nat → zH → Prop} (hW : Wok W) (hM : MW v W) (hf : ∀ a : Int, isc (wR W) (wC W) a = true → v 97 a = f (ixn (wC W) a) ∧ 0 ≤ f (ixn (wC W) a) ∧ f (ixn (wC W) a) ≤ 4000) (K : Q (zsm f (wN W).toNat) v) :
    ∀ (m i : Nat), i + m = 36 → zJ l G 1 (d + 2) h_M_sumNow k_M_sumNow 115 Q QX 4 [(2, 77), (0, zsm (fun o => if isc (wR W) (wC W) o = true then f (ixn (wC W) o) else 0) i), (0, (i : Int))] [] v 115
  | m, i, hi => by
    have hb := zsm_b (f := fun o => if isc (wR W) (wC W) o = true then f (ixn (wC W) o) else 0) (k := 4000) i (fun o _ _ => by
      split
      · rename_i q
        have := hf o q
        omega
      · omega)
    match m, hi with
    | 0, hi =>
      rw [show i = 36 by omega] at hb ⊢
      rw [zsm_nm hW.1 hW.2.1, ← hW.2.2.1]
      refine zgo ck_M_sumNow 300 4 _ _ _ _ rfl (sg_M_sumNow_4 ?_)
      try simp (disch := omega) only [zup_e, zup_ak, zup_j, Int.zero_add, Int.reduceAdd, mz78, mz79, mz80, mz81, mz82, mz83, mz84, mz85, mz86, mz87, mz88, mz89, mz90, mz91, mz92, mz93, mz94, mz95, mz96, mz97, mz98, mz99, mz100, mz101, mz102, mz103, mz104, mz105, mz106, mz107, mz108, mz109, mz110, mz111, mz112, mz113]
      refine ⟨fun q1 => ?_, fun q2 => ⟨by first | decide | omega | contradiction | exact absurd trivial (by assumption), ?_⟩⟩
      try (any_goals (exfalso; first | omega | exact absurd trivial (by assumption)))
      exact K
    | m + 1, hi =>
      have es := zsm_s (g := fun o => if isc (wR W) (wC W) o = true then f (ixn (wC W) o) else 0) (n := i)
      have g := sn_4 (QX := QX) hW hM hf K m (i + 1) (by omega)
      rw [es] at g
      refine zgo ck_M_sumNow 300 4 _ _ _ _ rfl (sg_M_sumNow_4 ?_)
      try simp (disch := omega) only [zup_e, zup_ak, zup_j, Int.zero_add, Int.reduceAdd, mz78, mz79, mz80, mz81, mz82, mz83, mz84, mz85, mz86, mz87, mz88, mz89, mz90, mz91, mz92, mz93, mz94, mz95, mz96, mz97, mz98, mz99, mz100, mz101, mz102, mz103, mz104, mz105, mz106, mz107, mz108, mz109, mz110, mz111, mz112, mz113]
      refine ⟨fun q1 => ?_, fun q2 => ⟨by first | decide | omega | contradiction | exact absurd trivial (by assumption), ?_⟩⟩
      try (any_goals (exfalso; first | omega | exact absurd trivial (by assumption)))
      refine m_cell hM ?_
      by_cases hc : isc (wR W) (wC W) i = true
      · have h36 := is36 hW hc
        have e := hf i hc
        rw [if_pos hc] at g ⊢
        show _
        simp only [e.1]
        refine ⟨fun q1 => ⟨⟨by first | decide | omega | contradiction | exact absurd trivial (by assumption), by first | decide | omega | contradiction | exact absurd trivial (by assumption)⟩, ⟨by first | decide | omega | contradiction | exact absurd trivial (by assumption), by first | decide | omega | contradiction | exact absurd trivial (by assumption)⟩, ?_⟩, fun q2 => ⟨by first | decide | omega | contradiction | exact absurd trivial (by assumption), by first | decide | omega | contradiction | exact absurd trivial (by assumption), ⟨by first | decide | omega | contradiction | exact absurd trivial (by assumption), by first | decide | omega | contradiction | exact absurd trivial (by assumption)⟩, ⟨by first | decide | omega | contradiction | exact absurd trivial (by assumption), by first | decide | omega | contradiction | exact absurd trivial (by assumption)⟩, ⟨by first | decide | omega | contradiction | exact absurd trivial (by assumption), by first | decide | omega | contradiction | exact absurd trivial (by assumption)⟩, ?_⟩⟩
        try (any_goals (exfalso; first | omega | exact absurd trivial (by assumption)))
        exact g
      · rw [if_neg hc] at g ⊢
        refine ⟨fun q1 => ⟨⟨by first | decide | omega | contradiction | exact absurd trivial (by assumption), by first | decide | omega | contradiction | exact absurd trivial (by assumption)⟩, ⟨by first | decide | omega | contradiction | exact absurd trivial (by assumption), by first | decide | omega | contradiction | exact absurd trivial (by assumption)⟩, ?_⟩, fun q2 => ⟨by first | decide | omega | contradiction | exact absurd trivial (by assumption), by first | decide | omega | contradiction | exact absurd trivial (by assumption), ⟨by first | decide | omega | contradiction | exact absurd trivial (by assumption), by first | decide | omega | contradiction | exact absurd trivial (by assumption)⟩, ⟨by first | decide | omega | contradiction | exact absurd trivial (by assumption), by first | decide | omega | contradiction | exact absurd trivial (by assumption)⟩, ⟨by first | decide | omega | contradiction | exact absurd trivial (by assumption), by first | decide | omega | contradiction | exact absurd trivial (by assumption)⟩, ?_⟩⟩
        try (any_goals (exfalso; first | omega | exact absurd trivial (by assumption)))
        exact g
theorem c_M_sumNow {f : Int → Int} (hW : Wok W) (hM : MW v W) (hf : ∀ a : Int, isc (wR W) (wC W) a = true → v 97 a = f (ixn (wC W) a) ∧ 0 ≤ f (ixn (wC W) a) ∧ f (ixn (wC W) a) ≤ 4000) (K : Q (zsm f (wN W).toNat) v) : zC l G 1 (d + 2) h_M_sumNow [(2, 77)] v 115 Q := by
  refine zC_at ok_M_sumNow ck_M_sumNow rfl rfl (sg_M_sumNow_0 ?_)
  try simp (disch := omega) only [zup_e, zup_ak, zup_j, Int.zero_add, Int.reduceAdd, mz78, mz79, mz80, mz81, mz82, mz83, mz84, mz85, mz86, mz87, mz88, mz89, mz90, mz91, mz92, mz93, mz94, mz95, mz96, mz97, mz98, mz99, mz100, mz101, mz102, mz103, mz104, mz105, mz106, mz107, mz108, mz109, mz110, mz111, mz112, mz113]
  exact sn_4 hW hM hf K 36 0 (by omega)
theorem m_cw {k : Nat} {a : Int} (hW : Wok W) (hc : Cok W c) (hh : cH c + k ≤ 1000000) (ha : isc (wR W) (wC W) a = true) : 0 ≤ cW (sSt W (sSn S) (kR S) c k) (ixn (wC W) a) ∧ cW (sSt W (sSn S) (kR S) c k) (ixn (wC W) a) ≤ 99 := by
  have h36 := is36 hW ha
  have h := (Cok_st (sn := sSn S) (rn := kR S) snOk_S hW hc k hh).2.1 _ h36.2.2.1 h36.2.2.2
  have w := (hW.2.2.2.2.2.2.2.2.2.1 _ h.1.1 h.1.2).2.1
  omega
theorem co_19 {n : Nat} {k : Int} {v0 : zH} {QX : Nat → zH → Prop} (hQ : QM v0 W c S) (hn : n ≤ 72) (hk01 : 0 ≤ k ∧ k ≤ 1) (K : ∀ v' : zH, Fz v0 v' → QM v' W c S → Q (if k = 0 then (sCld W S c n).1 else (sCld W S c n).2) v') :
    ∀ (m i : Nat) {v : zH}, i + m = n → MH v0 v W c S i → zJ l G 1 (d + 8) h_M_coldest k_M_coldest 115 Q QX 19 [(2, 77), (0, (n : Int)), (0, k), (0, (sCld W S c i).1), (0, (sCld W S c i).2), (0, (i : Int) + 1)] [] v 115
  | m, i, v, hi, hH => by
    obtain ⟨hW, hM, hc, -⟩ := id hQ.1
    have hh := hQ.2.2
    match m, hi with
    | 0, hi =>
      have e : i = n := by omega
      subst e
      by_cases hk0 : k = 0
      · rw [if_pos hk0] at K
        refine zgo ck_M_coldest 300 19 _ _ _ _ rfl (sg_M_coldest_19 ?_)
        try simp (disch := omega) only [zup_e, zup_ak, zup_j, Int.zero_add, Int.reduceAdd, mz78, mz79, mz80, mz81, mz82, mz83, mz84, mz85, mz86, mz87, mz88, mz89, mz90, mz91, mz92, mz93, mz94, mz95, mz96, mz97, mz98, mz99, mz100, mz101, mz102, mz103, mz104, mz105, mz106, mz107, mz108, mz109, mz110, mz111, mz112, mz113]
        refine ⟨fun q1 => ⟨by first | decide | omega | contradiction | exact absurd trivial (by assumption), ?_⟩, fun q2 => ⟨by first | decide | omega | contradiction | exact absurd trivial (by assumption), ?_⟩⟩
        try (any_goals (exfalso; first | omega | exact absurd trivial (by assumption)))
        refine m_qtb hQ hH (fun v1 y1 y2 _ => ?_)
        refine ⟨fun q1 => ?_, fun q2 => ?_⟩
        try (any_goals (exfalso; first | omega | exact absurd trivial (by assumption)))
        exact K v1 y1 y2
      · rw [if_neg hk0] at K
        refine zgo ck_M_coldest 300 19 _ _ _ _ rfl (sg_M_coldest_19 ?_)
        try simp (disch := omega) only [zup_e, zup_ak, zup_j, Int.zero_add, Int.reduceAdd, mz78, mz79, mz80, mz81, mz82, mz83, mz84, mz85, mz86, mz87, mz88, mz89, mz90, mz91, mz92, mz93, mz94, mz95, mz96, mz97, mz98, mz99, mz100, mz101, mz102, mz103, mz104, mz105, mz106, mz107, mz108, mz109, mz110, mz111, mz112, mz113]
        refine ⟨fun q1 => ⟨by first | decide | omega | contradiction | exact absurd trivial (by assumption), ?_⟩, fun q2 => ⟨by first | decide | omega | contradiction | exact absurd trivial (by assumption), ?_⟩⟩
        try (any_goals (exfalso; first | omega | exact absurd trivial (by assumption)))
        refine m_qtb hQ hH (fun v1 y1 y2 _ => ?_)
        refine ⟨fun q1 => ?_, fun q2 => ?_⟩
        try (any_goals (exfalso; first | omega | exact absurd trivial (by assumption)))
        exact K v1 y1 y2
    | m + 1, hi =>
      have ec : sCld W S c (i + 1) = if (sCld W S c i).1 = -1 ∨ sSum W (sSt W (sSn S) (kR S) c (i + 1)) < (sCld W S c i).2 then ((i : Int) + 1, sSum W (sSt W (sSn S) (kR S) c (i + 1))) else sCld W S c i := by
        show (if (sCld W S c i).1 = -1 ∨ sSum W (sSt W (sSn S) (kR S) c ((i : Int).toNat + 1)) < (sCld W S c i).2 then ((i : Int) + 1, sSum W (sSt W (sSn S) (kR S) c ((i : Int).toNat + 1))) else sCld W S c i) = _
        rw [Int.toNat_natCast]
      refine zgo ck_M_coldest 300 19 _ _ _ _ rfl (sg_M_coldest_19 ?_)
      try simp (disch := omega) only [zup_e, zup_ak, zup_j, Int.zero_add, Int.reduceAdd, mz78, mz79, mz80, mz81, mz82, mz83, mz84, mz85, mz86, mz87, mz88, mz89, mz90, mz91, mz92, mz93, mz94, mz95, mz96, mz97, mz98, mz99, mz100, mz101, mz102, mz103, mz104, mz105, mz106, mz107, mz108, mz109, mz110, mz111, mz112, mz113]
      refine ⟨fun q1 => ⟨by first | decide | omega | contradiction | exact absurd trivial (by assumption), ?_⟩, fun q2 => ⟨by first | decide | omega | contradiction | exact absurd trivial (by assumption), ?_⟩⟩
      try (any_goals (exfalso; first | omega | exact absurd trivial (by assumption)))
      refine m_ps hH (by omega) (fun v1 f1 f2 f3 => ?_)
      have hf : ∀ a : Int, isc (wR W) (wC W) a = true → v1 97 a = cW (sSt W (sSn S) (kR S) c (i + 1)) (ixn (wC W) a) ∧ 0 ≤ cW (sSt W (sSn S) (kR S) c (i + 1)) (ixn (wC W) a) ∧ cW (sSt W (sSn S) (kR S) c (i + 1)) (ixn (wC W) a) ≤ 4000 := fun a ha => by
        have := m_cw (S := S) (k := i + 1) hW hc (by omega) ha
        exact ⟨(f1.2.1.2.2.2.1.2.1 a ha).1, this.1, by omega⟩
      have g := co_19 (QX := QX) hQ hn hk01 K m (i + 1) (by omega) f1
      rw [ec] at g
      by_cases h1 : (sCld W S c i).1 = -1
      · rw [if_pos (Or.inl h1)] at g
        refine ⟨fun q1 => ⟨by first | decide | omega | contradiction | exact absurd trivial (by assumption), ?_⟩, fun q2 => ⟨by first | decide | omega | contradiction | exact absurd trivial (by assumption), ?_⟩⟩
        try (any_goals (exfalso; first | omega | exact absurd trivial (by assumption)))
        refine c_M_sumNow hW f1.2.1.2.1 hf ?_
        refine ⟨⟨by first | decide | omega | contradiction | exact absurd trivial (by assumption), by first | decide | omega | contradiction | exact absurd trivial (by assumption)⟩, ?_⟩
        exact g
      · refine ⟨fun q1 => ⟨by first | decide | omega | contradiction | exact absurd trivial (by assumption), ?_⟩, fun q2 => ⟨by first | decide | omega | contradiction | exact absurd trivial (by assumption), ?_⟩⟩
        try (any_goals (exfalso; first | omega | exact absurd trivial (by assumption)))
        refine c_M_sumNow hW f1.2.1.2.1 hf ?_
        by_cases h2 : sSum W (sSt W (sSn S) (kR S) c (i + 1)) < (sCld W S c i).2
        · rw [if_pos (Or.inr h2)] at g
          unfold sSum at h2
          refine ⟨fun q1 => ⟨⟨by first | decide | omega | contradiction | exact absurd trivial (by assumption), by first | decide | omega | contradiction | exact absurd trivial (by assumption)⟩, ?_⟩, fun q2 => ⟨by first | decide | omega | contradiction | exact absurd trivial (by assumption), ?_⟩⟩
          try (any_goals (exfalso; first | omega | exact absurd trivial (by assumption)))
          refine c_M_sumNow hW f1.2.1.2.1 hf ?_
          refine ⟨⟨by first | decide | omega | contradiction | exact absurd trivial (by assumption), by first | decide | omega | contradiction | exact absurd trivial (by assumption)⟩, ?_⟩
          exact g
        · rw [if_neg (fun q => q.elim h1 h2)] at g
          unfold sSum at h2
          refine ⟨fun q1 => ⟨⟨by first | decide | omega | contradiction | exact absurd trivial (by assumption), by first | decide | omega | contradiction | exact absurd trivial (by assumption)⟩, ?_⟩, fun q2 => ⟨by first | decide | omega | contradiction | exact absurd trivial (by assumption), ?_⟩⟩
          try (any_goals (exfalso; first | omega | exact absurd trivial (by assumption)))
          exact g
theorem c_M_coldest {n k : Int} (hQ : QM v W c S) (K : ∀ v' : zH, Fz v v' → QM v' W c S → Q (aColdest W S c n k) v') : zC l G 1 (d + 9) h_M_coldest [(2, 77), (0, n), (0, k)] v 115 Q := by
  have hM := hQ.1.2.1
  unfold aColdest at K
  refine zC_at ok_M_coldest ck_M_coldest rfl rfl (sg_M_coldest_0 ?_)
  try simp (disch := omega) only [zup_e, zup_ak, zup_j, Int.zero_add, Int.reduceAdd, mz78, mz79, mz80, mz81, mz82, mz83, mz84, mz85, mz86, mz87, mz88, mz89, mz90, mz91, mz92, mz93, mz94, mz95, mz96, mz97, mz98, mz99, mz100, mz101, mz102, mz103, mz104, mz105, mz106, mz107, mz108, mz109, mz110, mz111, mz112, mz113]
  refine ⟨by first | decide | omega | contradiction | exact absurd trivial (by assumption), ?_⟩
  try (any_goals (exfalso; first | omega | exact absurd trivial (by assumption)))
  refine c_M_areHours hM ?_
  by_cases hn : 0 < wR W ∧ (1 ≤ n ∧ n ≤ 72)
  rotate_left
  · rw [if_neg hn]
    rw [if_neg (fun q => hn ⟨q.1, q.2.1⟩)] at K
    refine ⟨fun q1 => ?_, fun q2 => ?_⟩
    try (any_goals (exfalso; first | omega | exact absurd trivial (by assumption)))
    exact K v Fz_rf hQ
  rw [if_pos hn]
  refine ⟨fun q1 => ?_, fun q2 => ?_⟩
  try (any_goals (exfalso; first | omega | exact absurd trivial (by assumption)))
  refine c_M_in ?_
  by_cases hk : 0 ≤ k ∧ k ≤ 1
  rotate_left
  · rw [if_neg hk]
    rw [if_neg (fun q => hk q.2.2)] at K
    refine ⟨fun q1 => ⟨by first | decide | omega | contradiction | exact absurd trivial (by assumption), ?_⟩, fun q2 => ?_⟩
    try (any_goals (exfalso; first | omega | exact absurd trivial (by assumption)))
    exact K v Fz_rf hQ
  rw [if_pos hk]
  rw [if_pos ⟨hn.1, hn.2, hk⟩] at K
  obtain ⟨hR, hn⟩ := hn
  obtain ⟨m, rfl⟩ : ∃ m : Nat, n = m := ⟨n.toNat, by omega⟩
  rw [Int.toNat_natCast] at K
  refine ⟨fun q1 => ⟨by first | decide | omega | contradiction | exact absurd trivial (by assumption), ?_⟩, fun q2 => ?_⟩
  try (any_goals (exfalso; first | omega | exact absurd trivial (by assumption)))
  refine m_pa hQ.1 (fun v1 g1 => ?_)
  exact co_19 hQ (by omega) hk K m 0 (by omega) g1
end
