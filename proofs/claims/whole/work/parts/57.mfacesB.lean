/-! THE REFERENCE: questions B -/
theorem W_R1 {W : zWl} (hW : Wok W) {a : Int} (ha : isc (wR W) (wC W) a = true) : 0 < wR W := by
  have := gE hW.1.2 hW.2.1 ha
  omega
theorem isc_0 {W : zWl} (hW : Wok W) (hR : 0 < wR W) : isc (wR W) (wC W) 0 = true ∧ ixn (wC W) 0 = 0 := by
  have h := hW.2.2.2.2.1 (by omega)
  refine ⟨?_, ?_⟩
  · rw [isc_iff]
    omega
  · unfold ixn
    simp
section
variable {l : Launch} {G : zG} {d : Nat} {v : zH} {Q : Int → zH → Prop} {W : zWl} {c : zCo} {S : zSk}
theorem sp_21 {n : Nat} {v0 : zH} {f : Int → Int} {QX : Nat → zH → Prop} (hQ : QM v0 W c S) (hH : MH v0 v W c S n) (hf : ∀ a : Int, isc (wR W) (wC W) a = true → v 97 a = f (ixn (wC W) a) ∧ 0 ≤ f (ixn (wC W) a) ∧ f (ixn (wC W) a) ≤ 99)
    (K : ∀ v' : zH, Fz v0 v' → QM v' W c S → Q (fd (fun m a => max m (f a)) 0 (wN W).toNat - fd (fun m a => min m (f a)) 99 (wN W).toNat) v') :
    ∀ (m i : Nat), i + m = 36 → 0 ≤ fd (fun m o => if isc (wR W) (wC W) o = true then min m (f (ixn (wC W) o)) else m) 99 i ∧ fd (fun m o => if isc (wR W) (wC W) o = true then min m (f (ixn (wC W) o)) else m) 99 i ≤ 99 → 0 ≤ fd (fun m o => if isc (wR W) (wC W) o = true then max m (f (ixn (wC W) o)) else m) 0 i ∧ fd (fun m o => if isc (wR W) (wC W) o = true then max m (f (ixn (wC W) o)) else m) 0 i ≤ 99 →
    zJ l G 1 (d + 8) h_M_spread k_M_spread 115 Q QX 21 [(2, 77), (3, 0), (0, fd (fun m o => if isc (wR W) (wC W) o = true then min m (f (ixn (wC W) o)) else m) 99 i), (0, fd (fun m o => if isc (wR W) (wC W) o = true then max m (f (ixn (wC W) o)) else m) 0 i), (0, (i : Int))] [] v 115
  | m, i, hi, b1, b2 => by
    obtain ⟨hW, hM0, hc, -⟩ := id hQ.1
    have hM := hH.2.1.2.1
    match m, hi with
    | 0, hi =>
      have e : i = 36 := by omega
      subst e
      rw [fd_nm (g := fun m x => min m (f x)) hW.1 hW.2.1, ← hW.2.2.1] at b1 ⊢
      rw [fd_nm (g := fun m x => max m (f x)) hW.1 hW.2.1, ← hW.2.2.1] at b2 ⊢
      refine zgo ck_M_spread 300 21 _ _ _ _ rfl (sg_M_spread_21 ?_)
      try simp (disch := omega) only [zup_e, zup_ak, zup_j, Int.zero_add, Int.reduceAdd, mz78, mz79, mz80, mz81, mz82, mz83, mz84, mz85, mz86, mz87, mz88, mz89, mz90, mz91, mz92, mz93, mz94, mz95, mz96, mz97, mz98, mz99, mz100, mz101, mz102, mz103, mz104, mz105, mz106, mz107, mz108, mz109, mz110, mz111, mz112, mz113]
      refine ⟨fun q1 => ⟨by first | decide | omega | contradiction | exact absurd trivial (by assumption), ?_⟩, fun q2 => ⟨by first | decide | omega | contradiction | exact absurd trivial (by assumption), ?_⟩⟩
      try (any_goals (exfalso; first | omega | exact absurd trivial (by assumption)))
      refine m_qtb hQ hH (fun v1 y1 y2 _ => ?_)
      refine ⟨⟨by first | decide | omega | contradiction | exact absurd trivial (by assumption), by first | decide | omega | contradiction | exact absurd trivial (by assumption)⟩, ?_⟩
      exact K v1 y1 y2
    | m + 1, hi =>
      have en : fd (fun m o => if isc (wR W) (wC W) o = true then min m (f (ixn (wC W) o)) else m) 99 (i + 1) = if isc (wR W) (wC W) i = true then min (fd (fun m o => if isc (wR W) (wC W) o = true then min m (f (ixn (wC W) o)) else m) 99 i) (f (ixn (wC W) i)) else fd (fun m o => if isc (wR W) (wC W) o = true then min m (f (ixn (wC W) o)) else m) 99 i := rfl
      have ex : fd (fun m o => if isc (wR W) (wC W) o = true then max m (f (ixn (wC W) o)) else m) 0 (i + 1) = if isc (wR W) (wC W) i = true then max (fd (fun m o => if isc (wR W) (wC W) o = true then max m (f (ixn (wC W) o)) else m) 0 i) (f (ixn (wC W) i)) else fd (fun m o => if isc (wR W) (wC W) o = true then max m (f (ixn (wC W) o)) else m) 0 i := rfl
      have g := sp_21 (QX := QX) hQ hH hf K m (i + 1) (by omega)
      refine zgo ck_M_spread 300 21 _ _ _ _ rfl (sg_M_spread_21 ?_)
      try simp (disch := omega) only [zup_e, zup_ak, zup_j, Int.zero_add, Int.reduceAdd, mz78, mz79, mz80, mz81, mz82, mz83, mz84, mz85, mz86, mz87, mz88, mz89, mz90, mz91, mz92, mz93, mz94, mz95, mz96, mz97, mz98, mz99, mz100, mz101, mz102, mz103, mz104, mz105, mz106, mz107, mz108, mz109, mz110, mz111, mz112, mz113]
      refine ⟨fun q1 => ⟨by first | decide | omega | contradiction | exact absurd trivial (by assumption), ?_⟩, fun q2 => ⟨by first | decide | omega | contradiction | exact absurd trivial (by assumption), ?_⟩⟩
      try (any_goals (exfalso; first | omega | exact absurd trivial (by assumption)))
      refine m_cell hM ?_
      by_cases ha : isc (wR W) (wC W) i = true
      · have h36 := is36 hW ha
        have e := hf i ha
        rw [if_pos ha] at en ex
        rw [en, ex] at g
        rw [if_pos ha]
        show _
        simp only [e.1]
        refine ⟨fun q1 => ⟨by first | decide | omega | contradiction | exact absurd trivial (by assumption), ?_⟩, fun q2 => ⟨by first | decide | omega | contradiction | exact absurd trivial (by assumption), by first | decide | omega | contradiction | exact absurd trivial (by assumption), ⟨by first | decide | omega | contradiction | exact absurd trivial (by assumption), by first | decide | omega | contradiction | exact absurd trivial (by assumption)⟩, by first | decide | omega | contradiction | exact absurd trivial (by assumption), ?_⟩⟩
        try (any_goals (exfalso; first | omega | exact absurd trivial (by assumption)))
        refine m_cell hM ?_
        rw [if_pos ha]
        show _
        simp only [e.1]
        refine ⟨fun q1 => ⟨⟨by first | decide | omega | contradiction | exact absurd trivial (by assumption), by first | decide | omega | contradiction | exact absurd trivial (by assumption)⟩, ?_⟩, fun q2 => ⟨by first | decide | omega | contradiction | exact absurd trivial (by assumption), by first | decide | omega | contradiction | exact absurd trivial (by assumption), ⟨by first | decide | omega | contradiction | exact absurd trivial (by assumption), by first | decide | omega | contradiction | exact absurd trivial (by assumption)⟩, ⟨by first | decide | omega | contradiction | exact absurd trivial (by assumption), by first | decide | omega | contradiction | exact absurd trivial (by assumption)⟩, ?_⟩⟩
        try (any_goals (exfalso; first | omega | exact absurd trivial (by assumption)))
        exact g (by omega) (by omega)
      · rw [if_neg ha] at en ex
        rw [en, ex] at g
        rw [if_neg ha]
        refine ⟨fun q1 => ⟨by first | decide | omega | contradiction | exact absurd trivial (by assumption), ?_⟩, fun q2 => ⟨by first | decide | omega | contradiction | exact absurd trivial (by assumption), by first | decide | omega | contradiction | exact absurd trivial (by assumption), ⟨by first | decide | omega | contradiction | exact absurd trivial (by assumption), by first | decide | omega | contradiction | exact absurd trivial (by assumption)⟩, by first | decide | omega | contradiction | exact absurd trivial (by assumption), ?_⟩⟩
        try (any_goals (exfalso; first | omega | exact absurd trivial (by assumption)))
        refine m_cell hM ?_
        rw [if_neg ha]
        refine ⟨fun q1 => ⟨⟨by first | decide | omega | contradiction | exact absurd trivial (by assumption), by first | decide | omega | contradiction | exact absurd trivial (by assumption)⟩, ?_⟩, fun q2 => ⟨by first | decide | omega | contradiction | exact absurd trivial (by assumption), by first | decide | omega | contradiction | exact absurd trivial (by assumption), ⟨by first | decide | omega | contradiction | exact absurd trivial (by assumption), by first | decide | omega | contradiction | exact absurd trivial (by assumption)⟩, ⟨by first | decide | omega | contradiction | exact absurd trivial (by assumption), by first | decide | omega | contradiction | exact absurd trivial (by assumption)⟩, ?_⟩⟩
        try (any_goals (exfalso; first | omega | exact absurd trivial (by assumption)))
        exact g b1 b2
theorem c_M_spread {n : Int} (hQ : QM v W c S) (K : ∀ v' : zH, Fz v v' → QM v' W c S → Q (aSpread W S c n) v') : zC l G 1 (d + 8) h_M_spread [(2, 77), (0, n)] v 115 Q := by
  obtain ⟨hW, hM, hc, -⟩ := id hQ.1
  have hh := hQ.2.2
  have hR4 := hW.1
  unfold aSpread at K
  refine zC_at ok_M_spread ck_M_spread rfl rfl (sg_M_spread_0 ?_)
  try simp (disch := omega) only [zup_e, zup_ak, zup_j, Int.zero_add, Int.reduceAdd, mz78, mz79, mz80, mz81, mz82, mz83, mz84, mz85, mz86, mz87, mz88, mz89, mz90, mz91, mz92, mz93, mz94, mz95, mz96, mz97, mz98, mz99, mz100, mz101, mz102, mz103, mz104, mz105, mz106, mz107, mz108, mz109, mz110, mz111, mz112, mz113, hM.2.1]
  refine ⟨by first | decide | omega | contradiction | exact absurd trivial (by assumption), ⟨fun q1 => ?_, fun q2 => ?_⟩⟩
  try (any_goals (exfalso; first | omega | exact absurd trivial (by assumption)))
  · rw [if_neg (fun q => by omega)] at K
    exact K v Fz_rf hQ
  refine c_M_in ?_
  by_cases hn : 0 ≤ n ∧ n ≤ 72
  rotate_left
  · rw [if_neg hn]
    rw [if_neg (fun q => hn q.2)] at K
    refine ⟨fun q1 => ⟨by first | decide | omega | contradiction | exact absurd trivial (by assumption), ?_⟩, fun q2 => ?_⟩
    try (any_goals (exfalso; first | omega | exact absurd trivial (by assumption)))
    exact K v Fz_rf hQ
  rw [if_pos hn]
  rw [if_pos ⟨by omega, hn⟩] at K
  obtain ⟨m, rfl⟩ : ∃ m : Nat, n = m := ⟨n.toNat, by omega⟩
  rw [Int.toNat_natCast] at K
  have hw1 := hW.2.2.2.2.1 (by omega)
  refine ⟨fun q1 => ⟨by first | decide | omega | contradiction | exact absurd trivial (by assumption), ?_⟩, fun q2 => ?_⟩
  try (any_goals (exfalso; first | omega | exact absurd trivial (by assumption)))
  refine m_pa hQ.1 (fun v1 g1 => ?_)
  refine ⟨by first | decide | omega | contradiction | exact absurd trivial (by assumption), ?_⟩
  refine c_M_passAll g1.2.1 (by have : cH (sSt W (sSn S) (kR S) c 0) = cH c := rfl; omega) (by omega) (fun v2 f1 f2 f3 => ?_)
  have f2 : MQc v2 W (sSt W (sSn S) (kR S) c m) S := f2
  have g2 : MH v v2 W c S m := ⟨Fz_tr g1.1 (Fz_p f1), f2, MA_p f1 g1.2.2.1, (f1.2 39 (by omega)).trans g1.2.2.2.1, by rw [f1.1 94 (by omega) (by omega) (by omega) (by omega) (by omega) (by omega) (by omega)]; exact g1.2.2.2.2.1, by rw [f1.1 96 (by omega) (by omega) (by omega) (by omega) (by omega) (by omega) (by omega)]; exact g1.2.2.2.2.2⟩
  have hcw := fun a ha => m_cw (S := S) (k := m) (a := a) hW hc (by omega) ha
  have h0 := isc_0 hW (by omega)
  have hc0 := hcw 0 h0.1
  rw [h0.2] at hc0
  obtain ⟨N, hN⟩ : ∃ N : Nat, (wN W).toNat = N + 1 := ⟨(wN W).toNat - 1, by omega⟩
  refine sp_21 (f := cW (sSt W (sSn S) (kR S) c m)) hQ g2 (fun a ha => ⟨(f2.2.2.2.1.2.1 a ha).1, hcw a ha⟩) (fun v' y1 y2 => ?_) 36 0 (by omega) ⟨by show (0 : Int) ≤ 99; omega, by show (99 : Int) ≤ 99; omega⟩ ⟨by show (0 : Int) ≤ 0; omega, by show (0 : Int) ≤ 99; omega⟩
  rw [hN, fd_min (by omega), fd_max (by omega), ← hN]
  exact K v' y1 y2
theorem fl_24 {a : Int} {n : Nat} {v0 : zH} {QX : Nat → zH → Prop} (hQ : QM v0 W c S) (hn : n ≤ 72) (ha : isc (wR W) (wC W) a = true) (K : ∀ v' : zH, Fz v0 v' → QM v' W c S → Q (zsm (fun k => sGiv W (sSt W (sSn S) (kR S) c k.toNat) (ixn (wC W) a) / 4) n) v') :
    ∀ (m k : Nat) {v : zH}, k + m = n → MH v0 v W c S k → zJ l G 1 (d + 8) h_M_flow k_M_flow 115 Q QX 24 [(2, 77), (0, a), (3, 0), (0, (n : Int)), (0, zsm (fun k => sGiv W (sSt W (sSn S) (kR S) c k.toNat) (ixn (wC W) a) / 4) k), (0, (k : Int))] [] v 115
  | m, k, v, hk, hH => by
    obtain ⟨hW, hM0, hc, -⟩ := id hQ.1
    have hh := hQ.2.2
    have h36 := is36 hW ha
    have hg : ∀ i : Int, 0 ≤ i → i < 100 → 0 ≤ sGiv W (sSt W (sSn S) (kR S) c i.toNat) (ixn (wC W) a) / 4 ∧ sGiv W (sSt W (sSn S) (kR S) c i.toNat) (ixn (wC W) a) / 4 ≤ 24 := fun i i1 i2 => by
      have := sGiv_b hW (Cok_st (sn := sSn S) (rn := kR S) snOk_S hW hc i.toNat (by omega)) h36.2.2.1 h36.2.2.2
      omega
    have hb := zsm_b (f := fun k => sGiv W (sSt W (sSn S) (kR S) c k.toNat) (ixn (wC W) a) / 4) (k := 24) k (fun i i1 i2 => hg i i1 (by omega))
    match m, hk with
    | 0, hk =>
      have e : k = n := by omega
      subst e
      refine zgo ck_M_flow 300 24 _ _ _ _ rfl (sg_M_flow_24 ?_)
      try simp (disch := omega) only [zup_e, zup_ak, zup_j, Int.zero_add, Int.reduceAdd, mz78, mz79, mz80, mz81, mz82, mz83, mz84, mz85, mz86, mz87, mz88, mz89, mz90, mz91, mz92, mz93, mz94, mz95, mz96, mz97, mz98, mz99, mz100, mz101, mz102, mz103, mz104, mz105, mz106, mz107, mz108, mz109, mz110, mz111, mz112, mz113]
      refine ⟨fun q1 => ⟨by first | decide | omega | contradiction | exact absurd trivial (by assumption), ?_⟩, fun q2 => ⟨by first | decide | omega | contradiction | exact absurd trivial (by assumption), ?_⟩⟩
      try (any_goals (exfalso; first | omega | exact absurd trivial (by assumption)))
      refine m_qtb hQ hH (fun v1 y1 y2 _ => ?_)
      exact K v1 y1 y2
    | m + 1, hk =>
      have es := zsm_s (g := fun k => sGiv W (sSt W (sSn S) (kR S) c k.toNat) (ixn (wC W) a) / 4) (n := k)
      have hgk := hg k (by omega) (by omega)
      rw [Int.toNat_natCast] at es hgk
      refine zgo ck_M_flow 300 24 _ _ _ _ rfl (sg_M_flow_24 ?_)
      try simp (disch := omega) only [zup_e, zup_ak, zup_j, Int.zero_add, Int.reduceAdd, mz78, mz79, mz80, mz81, mz82, mz83, mz84, mz85, mz86, mz87, mz88, mz89, mz90, mz91, mz92, mz93, mz94, mz95, mz96, mz97, mz98, mz99, mz100, mz101, mz102, mz103, mz104, mz105, mz106, mz107, mz108, mz109, mz110, mz111, mz112, mz113]
      refine ⟨fun q1 => ⟨by first | decide | omega | contradiction | exact absurd trivial (by assumption), ?_⟩, fun q2 => ⟨by first | decide | omega | contradiction | exact absurd trivial (by assumption), ?_⟩⟩
      try (any_goals (exfalso; first | omega | exact absurd trivial (by assumption)))
      refine m_ps hH (by omega) (fun v1 f1 f2 f3 => ?_)
      have e := (f2 a ha).2
      show _
      simp only [e]
      refine ⟨by first | decide | omega | contradiction | exact absurd trivial (by assumption), by first | decide | omega | contradiction | exact absurd trivial (by assumption), ⟨by first | decide | omega | contradiction | exact absurd trivial (by assumption), by first | decide | omega | contradiction | exact absurd trivial (by assumption)⟩, ⟨by first | decide | omega | contradiction | exact absurd trivial (by assumption), by first | decide | omega | contradiction | exact absurd trivial (by assumption)⟩, ⟨by first | decide | omega | contradiction | exact absurd trivial (by assumption), by first | decide | omega | contradiction | exact absurd trivial (by assumption)⟩, ?_⟩
      have g := fl_24 (QX := QX) hQ hn ha K m (k + 1) (by omega) f1
      rw [es] at g
      exact g
theorem c_M_flow {a b n : Int} (hQ : QM v W c S) (K : ∀ v' : zH, Fz v v' → QM v' W c S → Q (aFlow W S c a b n) v') : zC l G 1 (d + 8) h_M_flow [(2, 77), (0, a), (0, b), (0, n)] v 115 Q := by
  obtain ⟨hW, hM, hc, -⟩ := id hQ.1
  unfold aFlow at K
  refine zC_at ok_M_flow ck_M_flow rfl rfl (sg_M_flow_0 ?_)
  try simp (disch := omega) only [zup_e, zup_ak, zup_j, Int.zero_add, Int.reduceAdd, mz78, mz79, mz80, mz81, mz82, mz83, mz84, mz85, mz86, mz87, mz88, mz89, mz90, mz91, mz92, mz93, mz94, mz95, mz96, mz97, mz98, mz99, mz100, mz101, mz102, mz103, mz104, mz105, mz106, mz107, mz108, mz109, mz110, mz111, mz112, mz113]
  refine ⟨by first | decide | omega | contradiction | exact absurd trivial (by assumption), ?_⟩
  try (any_goals (exfalso; first | omega | exact absurd trivial (by assumption)))
  refine m_cell hM ?_
  by_cases ha : isc (wR W) (wC W) a = true
  rotate_left
  · rw [if_neg ha]
    rw [if_neg (fun q => ha q.1)] at K
    refine ⟨fun q1 => ?_, fun q2 => ⟨by first | decide | omega | contradiction | exact absurd trivial (by assumption), ?_⟩⟩
    try (any_goals (exfalso; first | omega | exact absurd trivial (by assumption)))
    exact K v Fz_rf hQ
  rw [if_pos ha]
  have ha36 := is36 hW ha
  refine ⟨fun q1 => ?_, fun q2 => ⟨by first | decide | omega | contradiction | exact absurd trivial (by assumption), ?_⟩⟩
  try (any_goals (exfalso; first | omega | exact absurd trivial (by assumption)))
  refine m_cell hM ?_
  by_cases hb : isc (wR W) (wC W) b = true
  rotate_left
  · rw [if_neg hb]
    rw [if_neg (fun q => hb q.2.1)] at K
    refine ⟨fun q1 => ?_, fun q2 => ?_⟩
    try (any_goals (exfalso; first | omega | exact absurd trivial (by assumption)))
    exact K v Fz_rf hQ
  rw [if_pos hb]
  have hb36 := is36 hW hb
  refine ⟨fun q1 => ?_, fun q2 => ?_⟩
  try (any_goals (exfalso; first | omega | exact absurd trivial (by assumption)))
  refine c_M_areBeside (by omega) (by omega) ?_
  rw [adj_nm hW.1.2 hW.2.1 ha hb]
  by_cases hj : adj (wC W) (ixn (wC W) a) (ixn (wC W) b) = true
  rotate_left
  · rw [if_neg hj]
    rw [if_neg (fun q => hj q.2.2.1)] at K
    refine ⟨fun q1 => ?_, fun q2 => ⟨by first | decide | omega | contradiction | exact absurd trivial (by assumption), ?_⟩⟩
    try (any_goals (exfalso; first | omega | exact absurd trivial (by assumption)))
    exact K v Fz_rf hQ
  rw [if_pos hj]
  refine ⟨fun q1 => ?_, fun q2 => ⟨by first | decide | omega | contradiction | exact absurd trivial (by assumption), ?_⟩⟩
  try (any_goals (exfalso; first | omega | exact absurd trivial (by assumption)))
  refine c_M_areHours hM ?_
  by_cases hn : 1 ≤ n ∧ n ≤ 72
  rotate_left
  · rw [if_neg (fun q => hn q.2)]
    rw [if_neg (fun q => hn q.2.2.2)] at K
    refine ⟨fun q1 => ⟨by first | decide | omega | contradiction | exact absurd trivial (by assumption), ?_⟩, fun q2 => ?_⟩
    try (any_goals (exfalso; first | omega | exact absurd trivial (by assumption)))
    exact K v Fz_rf hQ
  rw [if_pos ⟨W_R1 hW ha, hn⟩]
  rw [if_pos ⟨ha, hb, hj, hn⟩] at K
  obtain ⟨m, rfl⟩ : ∃ m : Nat, n = m := ⟨n.toNat, by omega⟩
  rw [Int.toNat_natCast] at K
  refine ⟨fun q1 => ⟨by first | decide | omega | contradiction | exact absurd trivial (by assumption), ?_⟩, fun q2 => ?_⟩
  try (any_goals (exfalso; first | omega | exact absurd trivial (by assumption)))
  refine m_pa hQ.1 (fun v1 g1 => ?_)
  exact fl_24 hQ (by omega) ha K m 0 (by omega) g1
theorem th_17 {a x : Int} {v0 : zH} {QX : Nat → zH → Prop} (hQ : QM v0 W c S) (ha : isc (wR W) (wC W) a = true) (K : ∀ v' : zH, Fz v0 v' → QM v' W c S → Q (sThw W S c (ixn (wC W) a) x 73) v') :
    ∀ (m k : Nat) {v : zH}, k + m = 73 → MH v0 v W c S k → zJ l G 1 (d + 8) h_M_thaw k_M_thaw 115 Q QX 17 [(2, 77), (0, a), (0, x), (0, sThw W S c (ixn (wC W) a) x k), (0, (k : Int))] [] v 115
  | m, k, v, hk, hH => by
    obtain ⟨hW, hM0, hc, -⟩ := id hQ.1
    have hh := hQ.2.2
    have h36 := is36 hW ha
    match m, hk with
    | 0, hk =>
      have e : k = 73 := by omega
      subst e
      refine zgo ck_M_thaw 300 17 _ _ _ _ rfl (sg_M_thaw_17 ?_)
      try simp (disch := omega) only [zup_e, zup_ak, zup_j, Int.zero_add, Int.reduceAdd, mz78, mz79, mz80, mz81, mz82, mz83, mz84, mz85, mz86, mz87, mz88, mz89, mz90, mz91, mz92, mz93, mz94, mz95, mz96, mz97, mz98, mz99, mz100, mz101, mz102, mz103, mz104, mz105, mz106, mz107, mz108, mz109, mz110, mz111, mz112, mz113]
      refine ⟨fun q1 => ⟨by first | decide | omega | contradiction | exact absurd trivial (by assumption), ?_⟩, fun q2 => ⟨fun q3 => ⟨by first | decide | omega | contradiction | exact absurd trivial (by assumption), ?_⟩, fun q4 => ⟨by first | decide | omega | contradiction | exact absurd trivial (by assumption), by first | decide | omega | contradiction | exact absurd trivial (by assumption), ⟨by first | decide | omega | contradiction | exact absurd trivial (by assumption), by first | decide | omega | contradiction | exact absurd trivial (by assumption)⟩, ⟨fun q5 => ⟨by first | decide | omega | contradiction | exact absurd trivial (by assumption), ?_⟩, fun q6 => ⟨by first | decide | omega | contradiction | exact absurd trivial (by assumption), ?_⟩⟩⟩⟩⟩
      try (any_goals (exfalso; first | omega | exact absurd trivial (by assumption)))
      refine m_qtb hQ hH (fun v1 y1 y2 _ => ?_)
      exact K v1 y1 y2
    | m + 1, hk =>
      have es := thw_s (W := W) (S := S) (c := c) (a := ixn (wC W) a) (x := x) (n := k)
      have e97 := (hH.2.1.2.2.2.1.2.1 a ha).1
      by_cases hf : sThw W S c (ixn (wC W) a) x k = -1
      · rw [hf] at es
        by_cases hx : x ≤ cW (sSt W (sSn S) (kR S) c k) (ixn (wC W) a)
        · rw [if_pos ⟨rfl, hx⟩] at es
          rw [hf]
          refine zgo ck_M_thaw 300 17 _ _ _ _ rfl (sg_M_thaw_17 ?_)
          try simp (disch := omega) only [zup_e, zup_ak, zup_j, Int.zero_add, Int.reduceAdd, mz78, mz79, mz80, mz81, mz82, mz83, mz84, mz85, mz86, mz87, mz88, mz89, mz90, mz91, mz92, mz93, mz94, mz95, mz96, mz97, mz98, mz99, mz100, mz101, mz102, mz103, mz104, mz105, mz106, mz107, mz108, mz109, mz110, mz111, mz112, mz113, e97]
          refine ⟨fun q1 => ⟨by first | decide | omega | contradiction | exact absurd trivial (by assumption), ?_⟩, fun q2 => ⟨fun q3 => ⟨by first | decide | omega | contradiction | exact absurd trivial (by assumption), ?_⟩, fun q4 => ⟨by first | decide | omega | contradiction | exact absurd trivial (by assumption), by first | decide | omega | contradiction | exact absurd trivial (by assumption), ⟨by first | decide | omega | contradiction | exact absurd trivial (by assumption), by first | decide | omega | contradiction | exact absurd trivial (by assumption)⟩, ⟨fun q5 => ⟨by first | decide | omega | contradiction | exact absurd trivial (by assumption), ?_⟩, fun q6 => ⟨by first | decide | omega | contradiction | exact absurd trivial (by assumption), ?_⟩⟩⟩⟩⟩
          try (any_goals (exfalso; first | omega | exact absurd trivial (by assumption)))
          refine m_ps hH (by omega) (fun v1 f1 f2 f3 => ?_)
          refine ⟨⟨by first | decide | omega | contradiction | exact absurd trivial (by assumption), by first | decide | omega | contradiction | exact absurd trivial (by assumption)⟩, ?_⟩
          have g := th_17 (QX := QX) hQ ha K m (k + 1) (by omega) f1
          rw [es] at g
          exact g
        · rw [if_neg (fun q => hx q.2)] at es
          rw [hf]
          refine zgo ck_M_thaw 300 17 _ _ _ _ rfl (sg_M_thaw_17 ?_)
          try simp (disch := omega) only [zup_e, zup_ak, zup_j, Int.zero_add, Int.reduceAdd, mz78, mz79, mz80, mz81, mz82, mz83, mz84, mz85, mz86, mz87, mz88, mz89, mz90, mz91, mz92, mz93, mz94, mz95, mz96, mz97, mz98, mz99, mz100, mz101, mz102, mz103, mz104, mz105, mz106, mz107, mz108, mz109, mz110, mz111, mz112, mz113, e97]
          refine ⟨fun q1 => ⟨by first | decide | omega | contradiction | exact absurd trivial (by assumption), ?_⟩, fun q2 => ⟨fun q3 => ⟨by first | decide | omega | contradiction | exact absurd trivial (by assumption), ?_⟩, fun q4 => ⟨by first | decide | omega | contradiction | exact absurd trivial (by assumption), by first | decide | omega | contradiction | exact absurd trivial (by assumption), ⟨by first | decide | omega | contradiction | exact absurd trivial (by assumption), by first | decide | omega | contradiction | exact absurd trivial (by assumption)⟩, ⟨fun q5 => ⟨by first | decide | omega | contradiction | exact absurd trivial (by assumption), ?_⟩, fun q6 => ⟨by first | decide | omega | contradiction | exact absurd trivial (by assumption), ?_⟩⟩⟩⟩⟩
          try (any_goals (exfalso; first | omega | exact absurd trivial (by assumption)))
          refine m_ps hH (by omega) (fun v1 f1 f2 f3 => ?_)
          refine ⟨⟨by first | decide | omega | contradiction | exact absurd trivial (by assumption), by first | decide | omega | contradiction | exact absurd trivial (by assumption)⟩, ?_⟩
          have g := th_17 (QX := QX) hQ ha K m (k + 1) (by omega) f1
          rw [es] at g
          exact g
      · have em := thw_m (W := W) (S := S) (c := c) (a := ixn (wC W) a) (x := x) hf (m + 1)
        rw [hk] at em
        rw [em] at K
        refine zgo ck_M_thaw 300 17 _ _ _ _ rfl (sg_M_thaw_17 ?_)
        try simp (disch := omega) only [zup_e, zup_ak, zup_j, Int.zero_add, Int.reduceAdd, mz78, mz79, mz80, mz81, mz82, mz83, mz84, mz85, mz86, mz87, mz88, mz89, mz90, mz91, mz92, mz93, mz94, mz95, mz96, mz97, mz98, mz99, mz100, mz101, mz102, mz103, mz104, mz105, mz106, mz107, mz108, mz109, mz110, mz111, mz112, mz113, e97]
        refine ⟨fun q1 => ⟨by first | decide | omega | contradiction | exact absurd trivial (by assumption), ?_⟩, fun q2 => ⟨fun q3 => ⟨by first | decide | omega | contradiction | exact absurd trivial (by assumption), ?_⟩, fun q4 => ⟨by first | decide | omega | contradiction | exact absurd trivial (by assumption), by first | decide | omega | contradiction | exact absurd trivial (by assumption), ⟨by first | decide | omega | contradiction | exact absurd trivial (by assumption), by first | decide | omega | contradiction | exact absurd trivial (by assumption)⟩, ⟨fun q5 => ⟨by first | decide | omega | contradiction | exact absurd trivial (by assumption), ?_⟩, fun q6 => ⟨by first | decide | omega | contradiction | exact absurd trivial (by assumption), ?_⟩⟩⟩⟩⟩
        try (any_goals (exfalso; first | omega | exact absurd trivial (by assumption)))
        refine m_qtb hQ hH (fun v1 y1 y2 _ => ?_)
        exact K v1 y1 y2
theorem c_M_thaw {a x : Int} (hQ : QM v W c S) (K : ∀ v' : zH, Fz v v' → QM v' W c S → Q (aThaw W S c a x) v') : zC l G 1 (d + 8) h_M_thaw [(2, 77), (0, a), (0, x)] v 115 Q := by
  obtain ⟨hW, hM, hc, -⟩ := id hQ.1
  unfold aThaw at K
  refine zC_at ok_M_thaw ck_M_thaw rfl rfl (sg_M_thaw_0 ?_)
  try simp (disch := omega) only [zup_e, zup_ak, zup_j, Int.zero_add, Int.reduceAdd, mz78, mz79, mz80, mz81, mz82, mz83, mz84, mz85, mz86, mz87, mz88, mz89, mz90, mz91, mz92, mz93, mz94, mz95, mz96, mz97, mz98, mz99, mz100, mz101, mz102, mz103, mz104, mz105, mz106, mz107, mz108, mz109, mz110, mz111, mz112, mz113]
  refine ⟨by first | decide | omega | contradiction | exact absurd trivial (by assumption), ?_⟩
  try (any_goals (exfalso; first | omega | exact absurd trivial (by assumption)))
  refine m_cell hM ?_
  by_cases ha : isc (wR W) (wC W) a = true
  rotate_left
  · rw [if_neg ha]
    rw [if_neg (fun q => ha q.1)] at K
    refine ⟨fun q1 => ?_, fun q2 => ?_⟩
    try (any_goals (exfalso; first | omega | exact absurd trivial (by assumption)))
    exact K v Fz_rf hQ
  rw [if_pos ha]
  refine ⟨fun q1 => ?_, fun q2 => ?_⟩
  try (any_goals (exfalso; first | omega | exact absurd trivial (by assumption)))
  refine c_M_in ?_
  by_cases hx : 0 ≤ x ∧ x ≤ 99
  rotate_left
  · rw [if_neg hx]
    rw [if_neg (fun q => hx q.2)] at K
    refine ⟨fun q1 => ⟨by first | decide | omega | contradiction | exact absurd trivial (by assumption), ?_⟩, fun q2 => ?_⟩
    try (any_goals (exfalso; first | omega | exact absurd trivial (by assumption)))
    exact K v Fz_rf hQ
  rw [if_pos hx]
  rw [if_pos ⟨ha, hx⟩] at K
  refine ⟨fun q1 => ⟨by first | decide | omega | contradiction | exact absurd trivial (by assumption), ?_⟩, fun q2 => ?_⟩
  try (any_goals (exfalso; first | omega | exact absurd trivial (by assumption)))
  refine m_pa hQ.1 (fun v1 g1 => ?_)
  exact th_17 hQ ha K 73 0 (by omega) g1
-- the cell that gives most
theorem gi_22 {n k k2 : Int} {f g : Int → Int} {v0 : zH} {QX : Nat → zH → Prop} (hW : Wok W) (hM : MW v0 W) (hk : 0 ≤ k ∧ k ≤ 100) (hf : ∀ a : Int, isc (wR W) (wC W) a = true → v0 100 a = g (ixn (wC W) a) ∧ (0 ≤ g (ixn (wC W) a) ∧ g (ixn (wC W) a) ≤ 4000) ∧ 0 ≤ f (ixn (wC W) a) ∧ f (ixn (wC W) a) ≤ 1000000) (h1 : k = 0 → ∀ a : Int, isc (wR W) (wC W) a = true → f (ixn (wC W) a) = 0) (h2 : k ≠ 0 → ∀ a : Int, isc (wR W) (wC W) a = true → v0 111 a = f (ixn (wC W) a))
    (K : ∀ v' : zH, (∀ b : Int, b ≠ 111 → v' b = v0 b) → (∀ a : Int, 0 ≤ a → a < 36 → v' 111 a = if isc (wR W) (wC W) a = true then f (ixn (wC W) a) + g (ixn (wC W) a) else -1) → zJ l G 1 (d + 8) h_M_giver k_M_giver 115 Q QX 15 [(2, 77), (0, n), (0, k2), (0, k + 1), (3, 0)] [] v' 115) :
    ∀ (m i : Nat) {v : zH}, i + m = 36 → (∀ b : Int, b ≠ 111 → v b = v0 b) → (∀ a : Int, 0 ≤ a → a < i → v 111 a = if isc (wR W) (wC W) a = true then f (ixn (wC W) a) + g (ixn (wC W) a) else -1) → (∀ a : Int, i ≤ a → v 111 a = v0 111 a) →
    zJ l G 1 (d + 8) h_M_giver k_M_giver 115 Q QX 22 [(2, 77), (0, n), (0, k2), (0, k), (0, (i : Int))] [] v 115
  | m, i, v, hi, hF, hp, hq => by
    have hMv : MW v W := MW_fr (fun j _ _ => by rw [hF 77 (by omega)]) (hF 93 (by omega)) (fun o _ _ => by rw [hF 94 (by omega)]; exact ⟨rfl, rfl, rfl⟩) (hF 95 (by omega)) hM
    match m, hi with
    | 0, hi =>
      refine zgo ck_M_giver 300 22 _ _ _ _ rfl (sg_M_giver_22 ?_)
      try simp (disch := omega) only [zup_e, zup_ak, zup_j, Int.zero_add, Int.reduceAdd, mz78, mz79, mz80, mz81, mz82, mz83, mz84, mz85, mz86, mz87, mz88, mz89, mz90, mz91, mz92, mz93, mz94, mz95, mz96, mz97, mz98, mz99, mz100, mz101, mz102, mz103, mz104, mz105, mz106, mz107, mz108, mz109, mz110, mz111, mz112, mz113]
      refine ⟨fun q1 => ⟨⟨by first | decide | omega | contradiction | exact absurd trivial (by assumption), by first | decide | omega | contradiction | exact absurd trivial (by assumption)⟩, ?_⟩, fun q2 => ⟨by first | decide | omega | contradiction | exact absurd trivial (by assumption), by first | decide | omega | contradiction | exact absurd trivial (by assumption), ?_⟩⟩
      try (any_goals (exfalso; first | omega | exact absurd trivial (by assumption)))
      exact K v hF (fun a a1 a2 => hp a a1 (by omega))
    | m + 1, hi =>
      have go : ∀ y : Int, y = (if isc (wR W) (wC W) i = true then f (ixn (wC W) i) + g (ixn (wC W) i) else -1) → zJ l G 1 (d + 8) h_M_giver k_M_giver 115 Q QX 22 [(2, 77), (0, n), (0, k2), (0, k), (0, (i : Int) + 1)] [] (zupd v 111 i y) 115 := by
        intro y hy
        refine gi_22 hW hM hk hf h1 h2 K m (i + 1) (by omega) (fun b q => (zup_a q).trans (hF b q)) (fun a a1 a2 => ?_) (fun a a1 => ?_)
        · by_cases e : a = i
          · rw [e, zup_s]
            exact hy
          · rw [zup_j e]
            exact hp a a1 (by omega)
        · rw [zup_j (by omega)]
          exact hq a (by omega)
      refine zgo ck_M_giver 300 22 _ _ _ _ rfl (sg_M_giver_22 ?_)
      try simp (disch := omega) only [zup_e, zup_ak, zup_j, Int.zero_add, Int.reduceAdd, mz78, mz79, mz80, mz81, mz82, mz83, mz84, mz85, mz86, mz87, mz88, mz89, mz90, mz91, mz92, mz93, mz94, mz95, mz96, mz97, mz98, mz99, mz100, mz101, mz102, mz103, mz104, mz105, mz106, mz107, mz108, mz109, mz110, mz111, mz112, mz113]
      refine ⟨fun q1 => ⟨⟨by first | decide | omega | contradiction | exact absurd trivial (by assumption), by first | decide | omega | contradiction | exact absurd trivial (by assumption)⟩, ?_⟩, fun q2 => ⟨by first | decide | omega | contradiction | exact absurd trivial (by assumption), by first | decide | omega | contradiction | exact absurd trivial (by assumption), ?_⟩⟩
      try (any_goals (exfalso; first | omega | exact absurd trivial (by assumption)))
      refine m_cell hMv ?_
      by_cases ha : isc (wR W) (wC W) i = true
      · have h36 := is36 hW ha
        obtain ⟨e1, e2, e3⟩ := hf i ha
        have e100 : v 100 i = g (ixn (wC W) i) := by rw [hF 100 (by omega)]; exact e1
        rw [if_pos ha] at go
        rw [if_pos ha]
        by_cases hk0 : k = 0
        · have e0 := h1 hk0 i ha
          show _
          simp only [e100]
          refine ⟨fun q1 => ⟨by first | decide | omega | contradiction | exact absurd trivial (by assumption), ⟨by first | decide | omega | contradiction | exact absurd trivial (by assumption), by first | decide | omega | contradiction | exact absurd trivial (by assumption)⟩, ⟨by first | decide | omega | contradiction | exact absurd trivial (by assumption), by first | decide | omega | contradiction | exact absurd trivial (by assumption)⟩, ?_⟩, fun q2 => ⟨fun q3 => ⟨by first | decide | omega | contradiction | exact absurd trivial (by assumption), by first | decide | omega | contradiction | exact absurd trivial (by assumption), ⟨by first | decide | omega | contradiction | exact absurd trivial (by assumption), by first | decide | omega | contradiction | exact absurd trivial (by assumption)⟩, by first | decide | omega | contradiction | exact absurd trivial (by assumption), by first | decide | omega | contradiction | exact absurd trivial (by assumption), ⟨by first | decide | omega | contradiction | exact absurd trivial (by assumption), by first | decide | omega | contradiction | exact absurd trivial (by assumption)⟩, ⟨by first | decide | omega | contradiction | exact absurd trivial (by assumption), by first | decide | omega | contradiction | exact absurd trivial (by assumption)⟩, by first | decide | omega | contradiction | exact absurd trivial (by assumption), ⟨by first | decide | omega | contradiction | exact absurd trivial (by assumption), by first | decide | omega | contradiction | exact absurd trivial (by assumption)⟩, ⟨by first | decide | omega | contradiction | exact absurd trivial (by assumption), by first | decide | omega | contradiction | exact absurd trivial (by assumption)⟩, ?_⟩, fun q4 => ⟨by first | decide | omega | contradiction | exact absurd trivial (by assumption), by first | decide | omega | contradiction | exact absurd trivial (by assumption), ⟨by first | decide | omega | contradiction | exact absurd trivial (by assumption), by first | decide | omega | contradiction | exact absurd trivial (by assumption)⟩, ⟨by first | decide | omega | contradiction | exact absurd trivial (by assumption), by first | decide | omega | contradiction | exact absurd trivial (by assumption)⟩, by first | decide | omega | contradiction | exact absurd trivial (by assumption), ⟨by first | decide | omega | contradiction | exact absurd trivial (by assumption), by first | decide | omega | contradiction | exact absurd trivial (by assumption)⟩, ⟨by first | decide | omega | contradiction | exact absurd trivial (by assumption), by first | decide | omega | contradiction | exact absurd trivial (by assumption)⟩, ?_⟩⟩⟩
          try (any_goals (exfalso; first | omega | exact absurd trivial (by assumption)))
          exact go _ (by omega)
        · have e111 : v 111 i = f (ixn (wC W) i) := by rw [hq i (by omega)]; exact h2 hk0 i ha
          show _
          simp only [e100, e111]
          refine ⟨fun q1 => ⟨by first | decide | omega | contradiction | exact absurd trivial (by assumption), ⟨by first | decide | omega | contradiction | exact absurd trivial (by assumption), by first | decide | omega | contradiction | exact absurd trivial (by assumption)⟩, ⟨by first | decide | omega | contradiction | exact absurd trivial (by assumption), by first | decide | omega | contradiction | exact absurd trivial (by assumption)⟩, ?_⟩, fun q2 => ⟨fun q3 => ⟨by first | decide | omega | contradiction | exact absurd trivial (by assumption), by first | decide | omega | contradiction | exact absurd trivial (by assumption), ⟨by first | decide | omega | contradiction | exact absurd trivial (by assumption), by first | decide | omega | contradiction | exact absurd trivial (by assumption)⟩, by first | decide | omega | contradiction | exact absurd trivial (by assumption), by first | decide | omega | contradiction | exact absurd trivial (by assumption), ⟨by first | decide | omega | contradiction | exact absurd trivial (by assumption), by first | decide | omega | contradiction | exact absurd trivial (by assumption)⟩, ⟨by first | decide | omega | contradiction | exact absurd trivial (by assumption), by first | decide | omega | contradiction | exact absurd trivial (by assumption)⟩, by first | decide | omega | contradiction | exact absurd trivial (by assumption), ⟨by first | decide | omega | contradiction | exact absurd trivial (by assumption), by first | decide | omega | contradiction | exact absurd trivial (by assumption)⟩, ⟨by first | decide | omega | contradiction | exact absurd trivial (by assumption), by first | decide | omega | contradiction | exact absurd trivial (by assumption)⟩, ?_⟩, fun q4 => ⟨by first | decide | omega | contradiction | exact absurd trivial (by assumption), by first | decide | omega | contradiction | exact absurd trivial (by assumption), ⟨by first | decide | omega | contradiction | exact absurd trivial (by assumption), by first | decide | omega | contradiction | exact absurd trivial (by assumption)⟩, ⟨by first | decide | omega | contradiction | exact absurd trivial (by assumption), by first | decide | omega | contradiction | exact absurd trivial (by assumption)⟩, by first | decide | omega | contradiction | exact absurd trivial (by assumption), ⟨by first | decide | omega | contradiction | exact absurd trivial (by assumption), by first | decide | omega | contradiction | exact absurd trivial (by assumption)⟩, ⟨by first | decide | omega | contradiction | exact absurd trivial (by assumption), by first | decide | omega | contradiction | exact absurd trivial (by assumption)⟩, ?_⟩⟩⟩
          try (any_goals (exfalso; first | omega | exact absurd trivial (by assumption)))
          exact go _ rfl
      · rw [if_neg ha] at go
        rw [if_neg ha]
        refine ⟨fun q1 => ⟨by first | decide | omega | contradiction | exact absurd trivial (by assumption), ⟨by first | decide | omega | contradiction | exact absurd trivial (by assumption), by first | decide | omega | contradiction | exact absurd trivial (by assumption)⟩, ⟨by first | decide | omega | contradiction | exact absurd trivial (by assumption), by first | decide | omega | contradiction | exact absurd trivial (by assumption)⟩, ?_⟩, fun q2 => ⟨fun q3 => ⟨by first | decide | omega | contradiction | exact absurd trivial (by assumption), by first | decide | omega | contradiction | exact absurd trivial (by assumption), ⟨by first | decide | omega | contradiction | exact absurd trivial (by assumption), by first | decide | omega | contradiction | exact absurd trivial (by assumption)⟩, by first | decide | omega | contradiction | exact absurd trivial (by assumption), by first | decide | omega | contradiction | exact absurd trivial (by assumption), ⟨by first | decide | omega | contradiction | exact absurd trivial (by assumption), by first | decide | omega | contradiction | exact absurd trivial (by assumption)⟩, ⟨by first | decide | omega | contradiction | exact absurd trivial (by assumption), by first | decide | omega | contradiction | exact absurd trivial (by assumption)⟩, by first | decide | omega | contradiction | exact absurd trivial (by assumption), ⟨by first | decide | omega | contradiction | exact absurd trivial (by assumption), by first | decide | omega | contradiction | exact absurd trivial (by assumption)⟩, ⟨by first | decide | omega | contradiction | exact absurd trivial (by assumption), by first | decide | omega | contradiction | exact absurd trivial (by assumption)⟩, ?_⟩, fun q4 => ⟨by first | decide | omega | contradiction | exact absurd trivial (by assumption), by first | decide | omega | contradiction | exact absurd trivial (by assumption), ⟨by first | decide | omega | contradiction | exact absurd trivial (by assumption), by first | decide | omega | contradiction | exact absurd trivial (by assumption)⟩, ⟨by first | decide | omega | contradiction | exact absurd trivial (by assumption), by first | decide | omega | contradiction | exact absurd trivial (by assumption)⟩, by first | decide | omega | contradiction | exact absurd trivial (by assumption), ⟨by first | decide | omega | contradiction | exact absurd trivial (by assumption), by first | decide | omega | contradiction | exact absurd trivial (by assumption)⟩, ⟨by first | decide | omega | contradiction | exact absurd trivial (by assumption), by first | decide | omega | contradiction | exact absurd trivial (by assumption)⟩, ?_⟩⟩⟩
        try (any_goals (exfalso; first | omega | exact absurd trivial (by assumption)))
        exact go _ rfl
theorem gi_58 {k : Int} {f : Int → Int} {QX : Nat → zH → Prop} (hW : Wok W) (hR : 0 < wR W) (hv : ∀ a : Int, 0 ≤ a → a < 36 → v 111 a = if isc (wR W) (wC W) a = true then f (ixn (wC W) a) else -1) (hf : ∀ a : Int, 0 ≤ a → a < wN W → 0 ≤ f a) (K : Q (if k = 0 then nmi (wC W) (sBst f (wN W).toNat) else f (sBst f (wN W).toNat)) v) :
    ∀ (m i : Nat), i + m = 36 → 1 ≤ i → 0 ≤ fd (fun b o => if isc (wR W) (wC W) o = true then (if f b < f (ixn (wC W) o) then ixn (wC W) o else b) else b) 0 i ∧ fd (fun b o => if isc (wR W) (wC W) o = true then (if f b < f (ixn (wC W) o) then ixn (wC W) o else b) else b) 0 i < wN W →
    zJ l G 1 (d + 8) h_M_giver k_M_giver 115 Q QX 58 [(2, 77), (3, 0), (0, k), (0, nmi (wC W) (fd (fun b o => if isc (wR W) (wC W) o = true then (if f b < f (ixn (wC W) o) then ixn (wC W) o else b) else b) 0 i)), (0, (i : Int))] [] v 115
  | m, i, hi, h1, hb => by
    have hN := hW.2.2.1
    have hnb : ∀ x : Int, 0 ≤ x → x < wN W → isc (wR W) (wC W) (nmi (wC W) x) = true ∧ ixn (wC W) (nmi (wC W) x) = x ∧ 0 ≤ nmi (wC W) x ∧ nmi (wC W) x < 36 ∧ v 111 (nmi (wC W) x) = f x := fun x x1 x2 => by
      have h := gN hW.1.2 hW.2.1 (a := x) ⟨x1, by omega⟩
      have h36 := is36 hW h.1
      refine ⟨h.1, h.2, h36.1, h36.2.1, ?_⟩
      rw [hv _ h36.1 h36.2.1, if_pos h.1, h.2]
    have eb := hnb _ hb.1 hb.2
    match m, hi with
    | 0, hi =>
      have e : i = 36 := by omega
      subst e
      rw [fd_nm (g := fun b x => if f b < f x then x else b) hW.1 hW.2.1, ← hW.2.2.1] at eb ⊢
      by_cases hk0 : k = 0
      · rw [if_pos hk0] at K
        refine zgo ck_M_giver 300 58 _ _ _ _ rfl (sg_M_giver_58 ?_)
        try simp (disch := omega) only [zup_e, zup_ak, zup_j, Int.zero_add, Int.reduceAdd, mz78, mz79, mz80, mz81, mz82, mz83, mz84, mz85, mz86, mz87, mz88, mz89, mz90, mz91, mz92, mz93, mz94, mz95, mz96, mz97, mz98, mz99, mz100, mz101, mz102, mz103, mz104, mz105, mz106, mz107, mz108, mz109, mz110, mz111, mz112, mz113]
        refine ⟨fun q1 => ⟨fun q2 => ⟨by first | decide | omega | contradiction | exact absurd trivial (by assumption), by first | decide | omega | contradiction | exact absurd trivial (by assumption), ⟨by first | decide | omega | contradiction | exact absurd trivial (by assumption), by first | decide | omega | contradiction | exact absurd trivial (by assumption)⟩, ?_⟩, fun q3 => ?_⟩, fun q4 => ⟨by first | decide | omega | contradiction | exact absurd trivial (by assumption), by first | decide | omega | contradiction | exact absurd trivial (by assumption), ⟨by first | decide | omega | contradiction | exact absurd trivial (by assumption), by first | decide | omega | contradiction | exact absurd trivial (by assumption)⟩, by first | decide | omega | contradiction | exact absurd trivial (by assumption), by first | decide | omega | contradiction | exact absurd trivial (by assumption), ⟨by first | decide | omega | contradiction | exact absurd trivial (by assumption), by first | decide | omega | contradiction | exact absurd trivial (by assumption)⟩, ⟨fun q5 => ⟨⟨by first | decide | omega | contradiction | exact absurd trivial (by assumption), by first | decide | omega | contradiction | exact absurd trivial (by assumption)⟩, ?_⟩, fun q6 => ⟨⟨by first | decide | omega | contradiction | exact absurd trivial (by assumption), by first | decide | omega | contradiction | exact absurd trivial (by assumption)⟩, ?_⟩⟩⟩⟩
        try (any_goals (exfalso; first | omega | exact absurd trivial (by assumption)))
        exact K
      · rw [if_neg hk0] at K
        refine zgo ck_M_giver 300 58 _ _ _ _ rfl (sg_M_giver_58 ?_)
        try simp (disch := omega) only [zup_e, zup_ak, zup_j, Int.zero_add, Int.reduceAdd, mz78, mz79, mz80, mz81, mz82, mz83, mz84, mz85, mz86, mz87, mz88, mz89, mz90, mz91, mz92, mz93, mz94, mz95, mz96, mz97, mz98, mz99, mz100, mz101, mz102, mz103, mz104, mz105, mz106, mz107, mz108, mz109, mz110, mz111, mz112, mz113, eb.2.2.2.2]
        refine ⟨fun q1 => ⟨fun q2 => ⟨by first | decide | omega | contradiction | exact absurd trivial (by assumption), by first | decide | omega | contradiction | exact absurd trivial (by assumption), ⟨by first | decide | omega | contradiction | exact absurd trivial (by assumption), by first | decide | omega | contradiction | exact absurd trivial (by assumption)⟩, ?_⟩, fun q3 => ?_⟩, fun q4 => ⟨by first | decide | omega | contradiction | exact absurd trivial (by assumption), by first | decide | omega | contradiction | exact absurd trivial (by assumption), ⟨by first | decide | omega | contradiction | exact absurd trivial (by assumption), by first | decide | omega | contradiction | exact absurd trivial (by assumption)⟩, by first | decide | omega | contradiction | exact absurd trivial (by assumption), by first | decide | omega | contradiction | exact absurd trivial (by assumption), ⟨by first | decide | omega | contradiction | exact absurd trivial (by assumption), by first | decide | omega | contradiction | exact absurd trivial (by assumption)⟩, ⟨fun q5 => ⟨⟨by first | decide | omega | contradiction | exact absurd trivial (by assumption), by first | decide | omega | contradiction | exact absurd trivial (by assumption)⟩, ?_⟩, fun q6 => ⟨⟨by first | decide | omega | contradiction | exact absurd trivial (by assumption), by first | decide | omega | contradiction | exact absurd trivial (by assumption)⟩, ?_⟩⟩⟩⟩
        try (any_goals (exfalso; first | omega | exact absurd trivial (by assumption)))
        exact K
    | m + 1, hi =>
      have es : fd (fun b o => if isc (wR W) (wC W) o = true then (if f b < f (ixn (wC W) o) then ixn (wC W) o else b) else b) 0 (i + 1) = if isc (wR W) (wC W) i = true then (if f (fd (fun b o => if isc (wR W) (wC W) o = true then (if f b < f (ixn (wC W) o) then ixn (wC W) o else b) else b) 0 i) < f (ixn (wC W) i) then ixn (wC W) i else fd (fun b o => if isc (wR W) (wC W) o = true then (if f b < f (ixn (wC W) o) then ixn (wC W) o else b) else b) 0 i) else fd (fun b o => if isc (wR W) (wC W) o = true then (if f b < f (ixn (wC W) o) then ixn (wC W) o else b) else b) 0 i := rfl
      have g := gi_58 (QX := QX) hW hR hv hf K m (i + 1) (by omega) (by omega)
      have ei := hv i (by omega) (by omega)
      have fb := hf _ hb.1 hb.2
      generalize fd (fun b o => if isc (wR W) (wC W) o = true then (if f b < f (ixn (wC W) o) then ixn (wC W) o else b) else b) 0 i = B at g es eb fb hb ⊢
      by_cases ha : isc (wR W) (wC W) i = true
      · have h36 := is36 hW ha
        have x4 := (gE hW.1.2 hW.2.1 ha).2.2.2.2.1
        rw [if_pos ha] at es ei
        by_cases hlt : f B < f (ixn (wC W) i)
        · rw [if_pos hlt] at es
          rw [es, x4] at g
          refine zgo ck_M_giver 300 58 _ _ _ _ rfl (sg_M_giver_58 ?_)
          try simp (disch := omega) only [zup_e, zup_ak, zup_j, Int.zero_add, Int.reduceAdd, mz78, mz79, mz80, mz81, mz82, mz83, mz84, mz85, mz86, mz87, mz88, mz89, mz90, mz91, mz92, mz93, mz94, mz95, mz96, mz97, mz98, mz99, mz100, mz101, mz102, mz103, mz104, mz105, mz106, mz107, mz108, mz109, mz110, mz111, mz112, mz113, eb.2.2.2.2, ei]
          refine ⟨fun q1 => ⟨fun q2 => ⟨by first | decide | omega | contradiction | exact absurd trivial (by assumption), by first | decide | omega | contradiction | exact absurd trivial (by assumption), ⟨by first | decide | omega | contradiction | exact absurd trivial (by assumption), by first | decide | omega | contradiction | exact absurd trivial (by assumption)⟩, ?_⟩, fun q3 => ?_⟩, fun q4 => ⟨by first | decide | omega | contradiction | exact absurd trivial (by assumption), by first | decide | omega | contradiction | exact absurd trivial (by assumption), ⟨by first | decide | omega | contradiction | exact absurd trivial (by assumption), by first | decide | omega | contradiction | exact absurd trivial (by assumption)⟩, by first | decide | omega | contradiction | exact absurd trivial (by assumption), by first | decide | omega | contradiction | exact absurd trivial (by assumption), ⟨by first | decide | omega | contradiction | exact absurd trivial (by assumption), by first | decide | omega | contradiction | exact absurd trivial (by assumption)⟩, ⟨fun q5 => ⟨⟨by first | decide | omega | contradiction | exact absurd trivial (by assumption), by first | decide | omega | contradiction | exact absurd trivial (by assumption)⟩, ?_⟩, fun q6 => ⟨⟨by first | decide | omega | contradiction | exact absurd trivial (by assumption), by first | decide | omega | contradiction | exact absurd trivial (by assumption)⟩, ?_⟩⟩⟩⟩
          try (any_goals (exfalso; first | omega | exact absurd trivial (by assumption)))
          exact g h36.2.2
        · rw [if_neg hlt] at es
          rw [es] at g
          refine zgo ck_M_giver 300 58 _ _ _ _ rfl (sg_M_giver_58 ?_)
          try simp (disch := omega) only [zup_e, zup_ak, zup_j, Int.zero_add, Int.reduceAdd, mz78, mz79, mz80, mz81, mz82, mz83, mz84, mz85, mz86, mz87, mz88, mz89, mz90, mz91, mz92, mz93, mz94, mz95, mz96, mz97, mz98, mz99, mz100, mz101, mz102, mz103, mz104, mz105, mz106, mz107, mz108, mz109, mz110, mz111, mz112, mz113, eb.2.2.2.2, ei]
          refine ⟨fun q1 => ⟨fun q2 => ⟨by first | decide | omega | contradiction | exact absurd trivial (by assumption), by first | decide | omega | contradiction | exact absurd trivial (by assumption), ⟨by first | decide | omega | contradiction | exact absurd trivial (by assumption), by first | decide | omega | contradiction | exact absurd trivial (by assumption)⟩, ?_⟩, fun q3 => ?_⟩, fun q4 => ⟨by first | decide | omega | contradiction | exact absurd trivial (by assumption), by first | decide | omega | contradiction | exact absurd trivial (by assumption), ⟨by first | decide | omega | contradiction | exact absurd trivial (by assumption), by first | decide | omega | contradiction | exact absurd trivial (by assumption)⟩, by first | decide | omega | contradiction | exact absurd trivial (by assumption), by first | decide | omega | contradiction | exact absurd trivial (by assumption), ⟨by first | decide | omega | contradiction | exact absurd trivial (by assumption), by first | decide | omega | contradiction | exact absurd trivial (by assumption)⟩, ⟨fun q5 => ⟨⟨by first | decide | omega | contradiction | exact absurd trivial (by assumption), by first | decide | omega | contradiction | exact absurd trivial (by assumption)⟩, ?_⟩, fun q6 => ⟨⟨by first | decide | omega | contradiction | exact absurd trivial (by assumption), by first | decide | omega | contradiction | exact absurd trivial (by assumption)⟩, ?_⟩⟩⟩⟩
          try (any_goals (exfalso; first | omega | exact absurd trivial (by assumption)))
          exact g hb
      · rw [if_neg ha] at es ei
        rw [es] at g
        refine zgo ck_M_giver 300 58 _ _ _ _ rfl (sg_M_giver_58 ?_)
        try simp (disch := omega) only [zup_e, zup_ak, zup_j, Int.zero_add, Int.reduceAdd, mz78, mz79, mz80, mz81, mz82, mz83, mz84, mz85, mz86, mz87, mz88, mz89, mz90, mz91, mz92, mz93, mz94, mz95, mz96, mz97, mz98, mz99, mz100, mz101, mz102, mz103, mz104, mz105, mz106, mz107, mz108, mz109, mz110, mz111, mz112, mz113, eb.2.2.2.2, ei]
        refine ⟨fun q1 => ⟨fun q2 => ⟨by first | decide | omega | contradiction | exact absurd trivial (by assumption), by first | decide | omega | contradiction | exact absurd trivial (by assumption), ⟨by first | decide | omega | contradiction | exact absurd trivial (by assumption), by first | decide | omega | contradiction | exact absurd trivial (by assumption)⟩, ?_⟩, fun q3 => ?_⟩, fun q4 => ⟨by first | decide | omega | contradiction | exact absurd trivial (by assumption), by first | decide | omega | contradiction | exact absurd trivial (by assumption), ⟨by first | decide | omega | contradiction | exact absurd trivial (by assumption), by first | decide | omega | contradiction | exact absurd trivial (by assumption)⟩, by first | decide | omega | contradiction | exact absurd trivial (by assumption), by first | decide | omega | contradiction | exact absurd trivial (by assumption), ⟨by first | decide | omega | contradiction | exact absurd trivial (by assumption), by first | decide | omega | contradiction | exact absurd trivial (by assumption)⟩, ⟨fun q5 => ⟨⟨by first | decide | omega | contradiction | exact absurd trivial (by assumption), by first | decide | omega | contradiction | exact absurd trivial (by assumption)⟩, ?_⟩, fun q6 => ⟨⟨by first | decide | omega | contradiction | exact absurd trivial (by assumption), by first | decide | omega | contradiction | exact absurd trivial (by assumption)⟩, ?_⟩⟩⟩⟩
        try (any_goals (exfalso; first | omega | exact absurd trivial (by assumption)))
        exact g hb
theorem gi_15 {n : Nat} {k : Int} {v0 : zH} {QX : Nat → zH → Prop} (hQ : QM v0 W c S) (hR : 0 < wR W) (hn : 1 ≤ n ∧ n ≤ 72) (K : ∀ v' : zH, Fz v0 v' → QM v' W c S → Q (if k = 0 then nmi (wC W) (sBst (sFa W (sSn S) (kR S) c n) (wN W).toNat) else sFa W (sSn S) (kR S) c n (sBst (sFa W (sSn S) (kR S) c n) (wN W).toNat)) v') :
    ∀ (m i : Nat) {v : zH}, i + m = n → MH v0 v W c S i → (1 ≤ i → ∀ a : Int, 0 ≤ a → a < 36 → v 111 a = if isc (wR W) (wC W) a = true then sFa W (sSn S) (kR S) c i (ixn (wC W) a) else -1) → zJ l G 1 (d + 8) h_M_giver k_M_giver 115 Q QX 15 [(2, 77), (0, (n : Int)), (0, k), (0, (i : Int)), (3, 0)] [] v 115
  | m, i, v, hi, hH, hp => by
    obtain ⟨hW, hM0, hc, -⟩ := id hQ.1
    have hh := hQ.2.2
    have hw1 := hW.2.2.2.2.1 (by omega)
    match m, hi with
    | 0, hi =>
      have e : i = n := by omega
      subst e
      refine zgo ck_M_giver 300 15 _ _ _ _ rfl (sg_M_giver_15 ?_)
      try simp (disch := omega) only [zup_e, zup_ak, zup_j, Int.zero_add, Int.reduceAdd, mz78, mz79, mz80, mz81, mz82, mz83, mz84, mz85, mz86, mz87, mz88, mz89, mz90, mz91, mz92, mz93, mz94, mz95, mz96, mz97, mz98, mz99, mz100, mz101, mz102, mz103, mz104, mz105, mz106, mz107, mz108, mz109, mz110, mz111, mz112, mz113]
      refine ⟨fun q1 => ⟨by first | decide | omega | contradiction | exact absurd trivial (by assumption), ?_⟩, fun q2 => ⟨by first | decide | omega | contradiction | exact absurd trivial (by assumption), ?_⟩⟩
      try (any_goals (exfalso; first | omega | exact absurd trivial (by assumption)))
      refine m_qtb hQ hH (fun v1 y1 y2 y3 => ?_)
      have h0 := isc_0 hW hR
      have e1 : fd (fun b o => if isc (wR W) (wC W) o = true then (if sFa W (sSn S) (kR S) c i b < sFa W (sSn S) (kR S) c i (ixn (wC W) o) then ixn (wC W) o else b) else b) 0 1 = 0 := by
        show (if isc (wR W) (wC W) 0 = true then (if sFa W (sSn S) (kR S) c i 0 < sFa W (sSn S) (kR S) c i (ixn (wC W) 0) then ixn (wC W) 0 else 0) else 0) = 0
        rw [h0.2]
        split <;> (try split) <;> rfl
      have g := gi_58 (k := k) (f := sFa W (sSn S) (kR S) c i) (v := v1) (Q := Q) (l := l) (G := G) (d := d) (QX := QX) hW hR (fun a a1 a2 => by rw [y3 111 (by omega) (by omega)]; exact hp hn.1 a a1 a2) (fun a a1 a2 => (sFa_b snOk_S hW hc (by omega) a1 a2).1) (K v1 y1 y2) 35 1 (by omega) (by omega) (by rw [e1]; omega)
      rw [e1, show nmi (wC W) 0 = 0 by unfold nmi; simp] at g
      exact g
    | m + 1, hi =>
      refine zgo ck_M_giver 300 15 _ _ _ _ rfl (sg_M_giver_15 ?_)
      try simp (disch := omega) only [zup_e, zup_ak, zup_j, Int.zero_add, Int.reduceAdd, mz78, mz79, mz80, mz81, mz82, mz83, mz84, mz85, mz86, mz87, mz88, mz89, mz90, mz91, mz92, mz93, mz94, mz95, mz96, mz97, mz98, mz99, mz100, mz101, mz102, mz103, mz104, mz105, mz106, mz107, mz108, mz109, mz110, mz111, mz112, mz113]
      refine ⟨fun q1 => ⟨by first | decide | omega | contradiction | exact absurd trivial (by assumption), ?_⟩, fun q2 => ⟨by first | decide | omega | contradiction | exact absurd trivial (by assumption), ?_⟩⟩
      try (any_goals (exfalso; first | omega | exact absurd trivial (by assumption)))
      refine m_ps hH (by omega) (fun v1 f1 f2 f3 => ?_)
      refine gi_22 (k2 := k) (n := (n : Int)) (k := (i : Int)) (f := sFa W (sSn S) (kR S) c i) (g := sFk W (sSn S) (kR S) c i) hW f1.2.1.2.1 (by omega) (fun a ha => ?_) (fun e a ha => ?_) (fun e a ha => ?_) (fun v2 y1 y2 => ?_) 36 0 (by omega) (fun _ _ => rfl) (fun a a1 a2 => by omega) (fun _ _ => rfl)
      · have h36 := is36 hW ha
        have b1 := sFk_b (sn := sSn S) (rn := kR S) (n := i) snOk_S hW hc (by omega) h36.2.2.1 h36.2.2.2
        have b2 := sFa_b (sn := sSn S) (rn := kR S) (n := i) snOk_S hW hc (by omega) h36.2.2.1 h36.2.2.2
        exact ⟨(f2 a ha).1, b1, b2.1, by omega⟩
      · have e' : i = 0 := by omega
        subst e'
        rfl
      · rw [f3 111 (by omega), hp (by omega) a (is36 hW ha).1 (is36 hW ha).2.1, if_pos ha]
      · refine gi_15 hQ hR hn K m (i + 1) (by omega) (MH_1 (x := 111) (by omega) y1 f1) (fun _ a a1 a2 => ?_)
        rw [y2 a a1 a2]
        have e : sFa W (sSn S) (kR S) c (i + 1) (ixn (wC W) a) = sFa W (sSn S) (kR S) c i (ixn (wC W) a) + sFk W (sSn S) (kR S) c i (ixn (wC W) a) := by
          unfold sFa
          rw [zsm_s, Int.toNat_natCast]
        rw [e]
theorem c_M_giver {n k : Int} (hQ : QM v W c S) (K : ∀ v' : zH, Fz v v' → QM v' W c S → Q (aGiver W S c n k) v') : zC l G 1 (d + 8) h_M_giver [(2, 77), (0, n), (0, k)] v 115 Q := by
  have hM := hQ.1.2.1
  unfold aGiver at K
  refine zC_at ok_M_giver ck_M_giver rfl rfl (sg_M_giver_0 ?_)
  try simp (disch := omega) only [zup_e, zup_ak, zup_j, Int.zero_add, Int.reduceAdd, mz78, mz79, mz80, mz81, mz82, mz83, mz84, mz85, mz86, mz87, mz88, mz89, mz90, mz91, mz92, mz93, mz94, mz95, mz96, mz97, mz98, mz99, mz100, mz101, mz102, mz103, mz104, mz105, mz106, mz107, mz108, mz109, mz110, mz111, mz112, mz113]
  refine ⟨by first | decide | omega | contradiction | exact absurd trivial (by assumption), ?_⟩
  try (any_goals (exfalso; first | omega | exact absurd trivial (by assumption)))
  refine c_M_areHours hM ?_
  by_cases hn : 0 < wR W ∧ (1 ≤ n ∧ n ≤ 72)
  rotate_left
  · rw [if_neg hn]
    rw [if_neg (fun q => hn ⟨q.1, q.2.1⟩)] at K
    refine ⟨fun q1 => ?_, fun q2 => ?_⟩
    try (any_goals (exfalso; first | omega | exact absurd trivial (by assumption)))
    exact K v Fz_rf hQ
  rw [if_pos hn]
  refine ⟨fun q1 => ?_, fun q2 => ?_⟩
  try (any_goals (exfalso; first | omega | exact absurd trivial (by assumption)))
  refine c_M_in ?_
  by_cases hk : 0 ≤ k ∧ k ≤ 1
  rotate_left
  · rw [if_neg hk]
    rw [if_neg (fun q => hk q.2.2)] at K
    refine ⟨fun q1 => ⟨by first | decide | omega | contradiction | exact absurd trivial (by assumption), ?_⟩, fun q2 => ?_⟩
    try (any_goals (exfalso; first | omega | exact absurd trivial (by assumption)))
    exact K v Fz_rf hQ
  rw [if_pos hk]
  rw [if_pos ⟨hn.1, hn.2, hk⟩] at K
  obtain ⟨hR, hn⟩ := hn
  obtain ⟨m, rfl⟩ : ∃ m : Nat, n = m := ⟨n.toNat, by omega⟩
  rw [Int.toNat_natCast] at K
  refine ⟨fun q1 => ⟨by first | decide | omega | contradiction | exact absurd trivial (by assumption), ?_⟩, fun q2 => ?_⟩
  try (any_goals (exfalso; first | omega | exact absurd trivial (by assumption)))
  refine m_pa hQ.1 (fun v1 g1 => ?_)
  exact gi_15 hQ hR (by omega) K m 0 (by omega) g1 (fun h => by omega)
theorem c_M_stone {s k : Int} (hQ : QM v W c S) (K : Q (aStone W s k) v) : zC l G 1 (d + 2) h_M_stone [(2, 77), (0, s), (0, k)] v 115 Q := by
  obtain ⟨hW, hM, -⟩ := id hQ.1
  have h4 := hW.2.2.2.2.2.2.1
  unfold aStone at K
  refine zC_at ok_M_stone ck_M_stone rfl rfl (sg_M_stone_0 ?_)
  try simp (disch := omega) only [zup_e, zup_ak, zup_j, Int.zero_add, Int.reduceAdd, mz78, mz79, mz80, mz81, mz82, mz83, mz84, mz85, mz86, mz87, mz88, mz89, mz90, mz91, mz92, mz93, mz94, mz95, mz96, mz97, mz98, mz99, mz100, mz101, mz102, mz103, mz104, mz105, mz106, mz107, mz108, mz109, mz110, mz111, mz112, mz113, hM.1]
  refine ⟨by first | decide | omega | contradiction | exact absurd trivial (by assumption), ⟨by first | decide | omega | contradiction | exact absurd trivial (by assumption), by first | decide | omega | contradiction | exact absurd trivial (by assumption)⟩, ?_⟩
  try (any_goals (exfalso; first | omega | exact absurd trivial (by assumption)))
  refine c_M_in ?_
  by_cases hs : 0 ≤ s ∧ s < wS W
  rotate_left
  · rw [if_neg (by omega)]
    rw [if_neg (fun q => hs q.1)] at K
    refine ⟨fun q1 => ?_, fun q2 => ?_⟩
    try (any_goals (exfalso; first | omega | exact absurd trivial (by assumption)))
    exact K
  rw [if_pos (by omega)]
  refine ⟨fun q1 => ?_, fun q2 => ?_⟩
  try (any_goals (exfalso; first | omega | exact absurd trivial (by assumption)))
  refine c_M_in ?_
  by_cases hk : 0 ≤ k ∧ k ≤ 2
  rotate_left
  · rw [if_neg hk]
    rw [if_neg (fun q => hk q.2)] at K
    refine ⟨fun q1 => ?_, fun q2 => ⟨by first | decide | omega | contradiction | exact absurd trivial (by assumption), ⟨by first | decide | omega | contradiction | exact absurd trivial (by assumption), by first | decide | omega | contradiction | exact absurd trivial (by assumption)⟩, ⟨by first | decide | omega | contradiction | exact absurd trivial (by assumption), by first | decide | omega | contradiction | exact absurd trivial (by assumption)⟩, by first | decide | omega | contradiction | exact absurd trivial (by assumption), ⟨by first | decide | omega | contradiction | exact absurd trivial (by assumption), by first | decide | omega | contradiction | exact absurd trivial (by assumption)⟩, ?_⟩⟩
    try (any_goals (exfalso; first | omega | exact absurd trivial (by assumption)))
    exact K
  rw [if_pos hk]
  rw [if_pos ⟨hs, hk⟩, ← hM.2.2.2.2.2.1 _ (by omega) (by omega)] at K
  refine ⟨fun q1 => ?_, fun q2 => ⟨by first | decide | omega | contradiction | exact absurd trivial (by assumption), ⟨by first | decide | omega | contradiction | exact absurd trivial (by assumption), by first | decide | omega | contradiction | exact absurd trivial (by assumption)⟩, ⟨by first | decide | omega | contradiction | exact absurd trivial (by assumption), by first | decide | omega | contradiction | exact absurd trivial (by assumption)⟩, by first | decide | omega | contradiction | exact absurd trivial (by assumption), ⟨by first | decide | omega | contradiction | exact absurd trivial (by assumption), by first | decide | omega | contradiction | exact absurd trivial (by assumption)⟩, ?_⟩⟩
  try (any_goals (exfalso; first | omega | exact absurd trivial (by assumption)))
  exact K
theorem c_M_sleeper {z k : Int} (hQ : QM v W c S) (K : Q (aSleeper W z k) v) : zC l G 1 (d + 3) h_M_sleeper [(2, 77), (0, z), (0, k)] v 115 Q := by
  obtain ⟨hW, hM, -⟩ := id hQ.1
  have h5 := hW.2.2.2.2.2.2.2.2.1
  unfold aSleeper at K
  refine zC_at ok_M_sleeper ck_M_sleeper rfl rfl (sg_M_sleeper_0 ?_)
  try simp (disch := omega) only [zup_e, zup_ak, zup_j, Int.zero_add, Int.reduceAdd, mz78, mz79, mz80, mz81, mz82, mz83, mz84, mz85, mz86, mz87, mz88, mz89, mz90, mz91, mz92, mz93, mz94, mz95, mz96, mz97, mz98, mz99, mz100, mz101, mz102, mz103, mz104, mz105, mz106, mz107, mz108, mz109, mz110, mz111, mz112, mz113]
  refine ⟨by first | decide | omega | contradiction | exact absurd trivial (by assumption), ?_⟩
  try (any_goals (exfalso; first | omega | exact absurd trivial (by assumption)))
  refine c_M_isSleeper hW hM ?_
  by_cases hz : 0 ≤ z ∧ z < wZ W
  rotate_left
  · rw [if_neg hz]
    rw [if_neg (fun q => hz q.1)] at K
    refine ⟨fun q1 => ?_, fun q2 => ?_⟩
    try (any_goals (exfalso; first | omega | exact absurd trivial (by assumption)))
    exact K
  rw [if_pos hz]
  refine ⟨fun q1 => ?_, fun q2 => ?_⟩
  try (any_goals (exfalso; first | omega | exact absurd trivial (by assumption)))
  refine c_M_in ?_
  by_cases hk : 0 ≤ k ∧ k ≤ 1
  rotate_left
  · rw [if_neg hk]
    rw [if_neg (fun q => hk q.2)] at K
    refine ⟨fun q1 => ?_, fun q2 => ⟨by first | decide | omega | contradiction | exact absurd trivial (by assumption), ⟨by first | decide | omega | contradiction | exact absurd trivial (by assumption), by first | decide | omega | contradiction | exact absurd trivial (by assumption)⟩, ⟨by first | decide | omega | contradiction | exact absurd trivial (by assumption), by first | decide | omega | contradiction | exact absurd trivial (by assumption)⟩, by first | decide | omega | contradiction | exact absurd trivial (by assumption), ⟨by first | decide | omega | contradiction | exact absurd trivial (by assumption), by first | decide | omega | contradiction | exact absurd trivial (by assumption)⟩, ?_⟩⟩
    try (any_goals (exfalso; first | omega | exact absurd trivial (by assumption)))
    exact K
  rw [if_pos hk]
  rw [if_pos ⟨hz, hk⟩, ← hM.2.2.2.2.2.2.2 _ (by omega) (by omega)] at K
  refine ⟨fun q1 => ?_, fun q2 => ⟨by first | decide | omega | contradiction | exact absurd trivial (by assumption), ⟨by first | decide | omega | contradiction | exact absurd trivial (by assumption), by first | decide | omega | contradiction | exact absurd trivial (by assumption)⟩, ⟨by first | decide | omega | contradiction | exact absurd trivial (by assumption), by first | decide | omega | contradiction | exact absurd trivial (by assumption)⟩, by first | decide | omega | contradiction | exact absurd trivial (by assumption), ⟨by first | decide | omega | contradiction | exact absurd trivial (by assumption), by first | decide | omega | contradiction | exact absurd trivial (by assumption)⟩, ?_⟩⟩
  try (any_goals (exfalso; first | omega | exact absurd trivial (by assumption)))
  exact K
theorem c_M_oven {o k : Int} (hQ : QM v W c S) (K : Q (aOven W c o k) v) : zC l G 1 (d + 2) h_M_oven [(2, 77), (0, o), (0, k)] v 115 Q := by
  obtain ⟨hW, hM, hc, hO, -⟩ := id hQ.1
  have h3 := hW.2.2.2.2.2.2.2.1
  have hcb := hc.1
  unfold aOven at K
  refine zC_at ok_M_oven ck_M_oven rfl rfl (sg_M_oven_0 ?_)
  try simp (disch := omega) only [zup_e, zup_ak, zup_j, Int.zero_add, Int.reduceAdd, mz78, mz79, mz80, mz81, mz82, mz83, mz84, mz85, mz86, mz87, mz88, mz89, mz90, mz91, mz92, mz93, mz94, mz95, mz96, mz97, mz98, mz99, mz100, mz101, mz102, mz103, mz104, mz105, mz106, mz107, mz108, mz109, mz110, mz111, mz112, mz113, hM.2.2.2.1, hO.1]
  refine ⟨by first | decide | omega | contradiction | exact absurd trivial (by assumption), ⟨by first | decide | omega | contradiction | exact absurd trivial (by assumption), by first | decide | omega | contradiction | exact absurd trivial (by assumption)⟩, ?_⟩
  try (any_goals (exfalso; first | omega | exact absurd trivial (by assumption)))
  refine c_M_in ?_
  by_cases ho : 0 ≤ o ∧ o < wO W
  rotate_left
  · rw [if_neg (by omega)]
    rw [if_neg (fun q => ho q.1)] at K
    refine ⟨fun q1 => ?_, fun q2 => ?_⟩
    try (any_goals (exfalso; first | omega | exact absurd trivial (by assumption)))
    exact K
  rw [if_pos (by omega)]
  obtain ⟨o1, o2, o3, o4, o5⟩ := hW.2.2.2.2.2.2.2.2.2.2.1 o ho.1 ho.2
  obtain ⟨e1, e2, e3⟩ := hM.2.2.2.2.2.2.1 o ho.1 ho.2
  have eh := (hO.2.2 o ho.1 ho.2).2 (by rw [hQ.2.1]; omega)
  have hw4 := hW.1
  have hw6 := hW.2.1
  refine ⟨fun q1 => ?_, fun q2 => ?_⟩
  try (any_goals (exfalso; first | omega | exact absurd trivial (by assumption)))
  refine c_M_in ?_
  by_cases hk : 0 ≤ k ∧ k ≤ 4
  rotate_left
  · rw [if_neg hk]
    rw [if_neg (fun q => hk q.2)] at K
    refine ⟨fun q1 => ⟨fun q2 => ⟨fun q3 => ⟨by first | decide | omega | contradiction | exact absurd trivial (by assumption), by first | decide | omega | contradiction | exact absurd trivial (by assumption), ?_⟩, fun q4 => ⟨by first | decide | omega | contradiction | exact absurd trivial (by assumption), ⟨by first | decide | omega | contradiction | exact absurd trivial (by assumption), by first | decide | omega | contradiction | exact absurd trivial (by assumption)⟩, ⟨by first | decide | omega | contradiction | exact absurd trivial (by assumption), by first | decide | omega | contradiction | exact absurd trivial (by assumption)⟩, ⟨by first | decide | omega | contradiction | exact absurd trivial (by assumption), by first | decide | omega | contradiction | exact absurd trivial (by assumption)⟩, by first | decide | omega | contradiction | exact absurd trivial (by assumption), ⟨by first | decide | omega | contradiction | exact absurd trivial (by assumption), by first | decide | omega | contradiction | exact absurd trivial (by assumption)⟩, ?_⟩⟩, fun q5 => ⟨by first | decide | omega | contradiction | exact absurd trivial (by assumption), ?_⟩⟩, fun q6 => ?_⟩
    try (any_goals (exfalso; first | omega | exact absurd trivial (by assumption)))
    exact K
  rw [if_pos hk]
  rw [if_pos ⟨ho, hk⟩] at K
  show _
  simp only [hO.1]
  have : k = 0 ∨ k = 1 ∨ k = 2 ∨ k = 3 ∨ k = 4 := by omega
  rcases this with rfl | rfl | rfl | rfl | rfl
  · rw [if_pos rfl] at K
    refine ⟨fun q1 => ⟨fun q2 => ⟨fun q3 => ⟨by first | decide | omega | contradiction | exact absurd trivial (by assumption), by first | decide | omega | contradiction | exact absurd trivial (by assumption), ?_⟩, fun q4 => ⟨by first | decide | omega | contradiction | exact absurd trivial (by assumption), ⟨by first | decide | omega | contradiction | exact absurd trivial (by assumption), by first | decide | omega | contradiction | exact absurd trivial (by assumption)⟩, ⟨by first | decide | omega | contradiction | exact absurd trivial (by assumption), by first | decide | omega | contradiction | exact absurd trivial (by assumption)⟩, ⟨by first | decide | omega | contradiction | exact absurd trivial (by assumption), by first | decide | omega | contradiction | exact absurd trivial (by assumption)⟩, by first | decide | omega | contradiction | exact absurd trivial (by assumption), ⟨by first | decide | omega | contradiction | exact absurd trivial (by assumption), by first | decide | omega | contradiction | exact absurd trivial (by assumption)⟩, ?_⟩⟩, fun q5 => ⟨by first | decide | omega | contradiction | exact absurd trivial (by assumption), ?_⟩⟩, fun q6 => ?_⟩
    try (any_goals (exfalso; first | omega | exact absurd trivial (by assumption)))
    refine c_M_ovenCell (by omega) (by omega) (by omega) ?_
    rw [e1, e2]
    exact K
  · rw [if_neg (by omega), if_pos rfl] at K
    have e : v 94 (5 * o + 1 + 1) = cF c o := by rw [show 5 * o + 1 + 1 = 5 * o + 2 by omega]; exact eh.1
    simp only [e]
    refine ⟨fun q1 => ⟨fun q2 => ⟨fun q3 => ⟨by first | decide | omega | contradiction | exact absurd trivial (by assumption), by first | decide | omega | contradiction | exact absurd trivial (by assumption), ?_⟩, fun q4 => ⟨by first | decide | omega | contradiction | exact absurd trivial (by assumption), ⟨by first | decide | omega | contradiction | exact absurd trivial (by assumption), by first | decide | omega | contradiction | exact absurd trivial (by assumption)⟩, ⟨by first | decide | omega | contradiction | exact absurd trivial (by assumption), by first | decide | omega | contradiction | exact absurd trivial (by assumption)⟩, ⟨by first | decide | omega | contradiction | exact absurd trivial (by assumption), by first | decide | omega | contradiction | exact absurd trivial (by assumption)⟩, by first | decide | omega | contradiction | exact absurd trivial (by assumption), ⟨by first | decide | omega | contradiction | exact absurd trivial (by assumption), by first | decide | omega | contradiction | exact absurd trivial (by assumption)⟩, ?_⟩⟩, fun q5 => ⟨by first | decide | omega | contradiction | exact absurd trivial (by assumption), ?_⟩⟩, fun q6 => ?_⟩
    try (any_goals (exfalso; first | omega | exact absurd trivial (by assumption)))
    exact K
  · rw [if_neg (by omega), if_neg (by omega), if_pos rfl] at K
    have e : v 94 (5 * o + 2 + 1) = cU c o := by rw [show 5 * o + 2 + 1 = 5 * o + 3 by omega]; exact eh.2
    simp only [e]
    refine ⟨fun q1 => ⟨fun q2 => ⟨fun q3 => ⟨by first | decide | omega | contradiction | exact absurd trivial (by assumption), by first | decide | omega | contradiction | exact absurd trivial (by assumption), ?_⟩, fun q4 => ⟨by first | decide | omega | contradiction | exact absurd trivial (by assumption), ⟨by first | decide | omega | contradiction | exact absurd trivial (by assumption), by first | decide | omega | contradiction | exact absurd trivial (by assumption)⟩, ⟨by first | decide | omega | contradiction | exact absurd trivial (by assumption), by first | decide | omega | contradiction | exact absurd trivial (by assumption)⟩, ⟨by first | decide | omega | contradiction | exact absurd trivial (by assumption), by first | decide | omega | contradiction | exact absurd trivial (by assumption)⟩, by first | decide | omega | contradiction | exact absurd trivial (by assumption), ⟨by first | decide | omega | contradiction | exact absurd trivial (by assumption), by first | decide | omega | contradiction | exact absurd trivial (by assumption)⟩, ?_⟩⟩, fun q5 => ⟨by first | decide | omega | contradiction | exact absurd trivial (by assumption), ?_⟩⟩, fun q6 => ?_⟩
    try (any_goals (exfalso; first | omega | exact absurd trivial (by assumption)))
    exact K
  · rw [if_neg (by omega), if_neg (by omega), if_neg (by omega), if_pos rfl] at K
    have e : v 94 (5 * o + 3 + 1) = wV W (5 * o + 4) := by rw [show 5 * o + 3 + 1 = 5 * o + 4 by omega]; exact e3
    simp only [e]
    refine ⟨fun q1 => ⟨fun q2 => ⟨fun q3 => ⟨by first | decide | omega | contradiction | exact absurd trivial (by assumption), by first | decide | omega | contradiction | exact absurd trivial (by assumption), ?_⟩, fun q4 => ⟨by first | decide | omega | contradiction | exact absurd trivial (by assumption), ⟨by first | decide | omega | contradiction | exact absurd trivial (by assumption), by first | decide | omega | contradiction | exact absurd trivial (by assumption)⟩, ⟨by first | decide | omega | contradiction | exact absurd trivial (by assumption), by first | decide | omega | contradiction | exact absurd trivial (by assumption)⟩, ⟨by first | decide | omega | contradiction | exact absurd trivial (by assumption), by first | decide | omega | contradiction | exact absurd trivial (by assumption)⟩, by first | decide | omega | contradiction | exact absurd trivial (by assumption), ⟨by first | decide | omega | contradiction | exact absurd trivial (by assumption), by first | decide | omega | contradiction | exact absurd trivial (by assumption)⟩, ?_⟩⟩, fun q5 => ⟨by first | decide | omega | contradiction | exact absurd trivial (by assumption), ?_⟩⟩, fun q6 => ?_⟩
    try (any_goals (exfalso; first | omega | exact absurd trivial (by assumption)))
    exact K
  · rw [if_neg (by omega), if_neg (by omega), if_neg (by omega), if_neg (by omega)] at K
    refine ⟨fun q1 => ⟨fun q2 => ⟨fun q3 => ⟨by first | decide | omega | contradiction | exact absurd trivial (by assumption), by first | decide | omega | contradiction | exact absurd trivial (by assumption), ?_⟩, fun q4 => ⟨by first | decide | omega | contradiction | exact absurd trivial (by assumption), ⟨by first | decide | omega | contradiction | exact absurd trivial (by assumption), by first | decide | omega | contradiction | exact absurd trivial (by assumption)⟩, ⟨by first | decide | omega | contradiction | exact absurd trivial (by assumption), by first | decide | omega | contradiction | exact absurd trivial (by assumption)⟩, ⟨by first | decide | omega | contradiction | exact absurd trivial (by assumption), by first | decide | omega | contradiction | exact absurd trivial (by assumption)⟩, by first | decide | omega | contradiction | exact absurd trivial (by assumption), ⟨by first | decide | omega | contradiction | exact absurd trivial (by assumption), by first | decide | omega | contradiction | exact absurd trivial (by assumption)⟩, ?_⟩⟩, fun q5 => ⟨by first | decide | omega | contradiction | exact absurd trivial (by assumption), ?_⟩⟩, fun q6 => ?_⟩
    try (any_goals (exfalso; first | omega | exact absurd trivial (by assumption)))
    refine c_M_doesBurn (f := cF c o) (u := cU c o) (by omega) (by omega) (fun q => by rw [hQ.2.1] at q; omega) (fun _ => eh) ?_
    by_cases hb : sBurn (cF c o) (cU c o) (cH c) = true
    · rw [if_pos hb] at K ⊢
      refine ⟨fun q1 => ?_, fun q2 => ?_⟩
      try (any_goals (exfalso; first | omega | exact absurd trivial (by assumption)))
      exact K
    · rw [if_neg hb] at K ⊢
      refine ⟨fun q1 => ?_, fun q2 => ?_⟩
      try (any_goals (exfalso; first | omega | exact absurd trivial (by assumption)))
      exact K
theorem c_M_cellX {a k : Int} (hQ : QM v W c S) (h : ¬ (isc (wR W) (wC W) a = true ∧ (0 ≤ k ∧ k ≤ 3))) (K : ∀ v' : zH, Fz v v' → QM v' W c S → v' 77 0 = 1 → Q 0 v') : zC l G 1 (d + 7) h_M_cell [(2, 77), (0, a), (0, k)] v 115 Q := by
  obtain ⟨hW, hM, -⟩ := id hQ.1
  have fin : Q 0 (zupd v 77 0 1) := K _ ⟨fun b q => zup_a (by omega), fun j q _ _ _ _ _ => zup_j q⟩ ⟨MQc_fr (fun b q => zup_a (by omega)) (fun j q => zup_j (by omega)) hQ.1, (zup_j (by omega)).trans hQ.2.1, hQ.2.2⟩ zup_s
  refine zC_at ok_M_cell ck_M_cell rfl rfl (sg_M_cell_0 ?_)
  try simp (disch := omega) only [zup_e, zup_ak, zup_j, Int.zero_add, Int.reduceAdd, mz78, mz79, mz80, mz81, mz82, mz83, mz84, mz85, mz86, mz87, mz88, mz89, mz90, mz91, mz92, mz93, mz94, mz95, mz96, mz97, mz98, mz99, mz100, mz101, mz102, mz103, mz104, mz105, mz106, mz107, mz108, mz109, mz110, mz111, mz112, mz113]
  refine ⟨by first | decide | omega | contradiction | exact absurd trivial (by assumption), ?_⟩
  try (any_goals (exfalso; first | omega | exact absurd trivial (by assumption)))
  refine m_cell hM ?_
  by_cases ha : isc (wR W) (wC W) a = true
  · rw [if_pos ha]
    refine ⟨fun q1 => ⟨by first | decide | omega | contradiction | exact absurd trivial (by assumption), by first | decide | omega | contradiction | exact absurd trivial (by assumption), ⟨fun q2 => ⟨fun q3 => ⟨by first | decide | omega | contradiction | exact absurd trivial (by assumption), ?_⟩, fun q4 => ⟨fun q5 => ⟨fun q6 => ⟨by first | decide | omega | contradiction | exact absurd trivial (by assumption), by first | decide | omega | contradiction | exact absurd trivial (by assumption), ?_⟩, fun q7 => ⟨by first | decide | omega | contradiction | exact absurd trivial (by assumption), by first | decide | omega | contradiction | exact absurd trivial (by assumption), ⟨by first | decide | omega | contradiction | exact absurd trivial (by assumption), by first | decide | omega | contradiction | exact absurd trivial (by assumption)⟩, ?_⟩⟩, fun q8 => ⟨by first | decide | omega | contradiction | exact absurd trivial (by assumption), by first | decide | omega | contradiction | exact absurd trivial (by assumption), ⟨by first | decide | omega | contradiction | exact absurd trivial (by assumption), by first | decide | omega | contradiction | exact absurd trivial (by assumption)⟩, ?_⟩⟩⟩, fun q9 => ?_⟩⟩, fun q10 => ?_⟩
    try (any_goals (exfalso; first | omega | exact absurd trivial (by assumption)))
    refine c_M_in ?_
    rw [if_neg (fun q => h ⟨ha, q⟩)]
    refine ⟨fun q1 => ⟨by first | decide | omega | contradiction | exact absurd trivial (by assumption), by first | decide | omega | contradiction | exact absurd trivial (by assumption), ⟨fun q2 => ⟨fun q3 => ⟨by first | decide | omega | contradiction | exact absurd trivial (by assumption), ?_⟩, fun q4 => ⟨fun q5 => ⟨fun q6 => ⟨by first | decide | omega | contradiction | exact absurd trivial (by assumption), by first | decide | omega | contradiction | exact absurd trivial (by assumption), ?_⟩, fun q7 => ⟨by first | decide | omega | contradiction | exact absurd trivial (by assumption), by first | decide | omega | contradiction | exact absurd trivial (by assumption), ⟨by first | decide | omega | contradiction | exact absurd trivial (by assumption), by first | decide | omega | contradiction | exact absurd trivial (by assumption)⟩, ?_⟩⟩, fun q8 => ⟨by first | decide | omega | contradiction | exact absurd trivial (by assumption), by first | decide | omega | contradiction | exact absurd trivial (by assumption), ⟨by first | decide | omega | contradiction | exact absurd trivial (by assumption), by first | decide | omega | contradiction | exact absurd trivial (by assumption)⟩, ?_⟩⟩⟩, fun q9 => ?_⟩⟩, fun q10 => ⟨by first | decide | omega | contradiction | exact absurd trivial (by assumption), by first | decide | omega | contradiction | exact absurd trivial (by assumption), ⟨fun q11 => ⟨fun q12 => ⟨by first | decide | omega | contradiction | exact absurd trivial (by assumption), ?_⟩, fun q13 => ⟨fun q14 => ⟨fun q15 => ⟨by first | decide | omega | contradiction | exact absurd trivial (by assumption), by first | decide | omega | contradiction | exact absurd trivial (by assumption), ?_⟩, fun q16 => ⟨by first | decide | omega | contradiction | exact absurd trivial (by assumption), by first | decide | omega | contradiction | exact absurd trivial (by assumption), ⟨by first | decide | omega | contradiction | exact absurd trivial (by assumption), by first | decide | omega | contradiction | exact absurd trivial (by assumption)⟩, ?_⟩⟩, fun q17 => ⟨by first | decide | omega | contradiction | exact absurd trivial (by assumption), by first | decide | omega | contradiction | exact absurd trivial (by assumption), ⟨by first | decide | omega | contradiction | exact absurd trivial (by assumption), by first | decide | omega | contradiction | exact absurd trivial (by assumption)⟩, ?_⟩⟩⟩, fun q18 => ?_⟩⟩⟩
    try (any_goals (exfalso; first | omega | exact absurd trivial (by assumption)))
    exact fin
  · rw [if_neg ha]
    refine ⟨fun q1 => ⟨by first | decide | omega | contradiction | exact absurd trivial (by assumption), by first | decide | omega | contradiction | exact absurd trivial (by assumption), ⟨fun q2 => ⟨fun q3 => ⟨by first | decide | omega | contradiction | exact absurd trivial (by assumption), ?_⟩, fun q4 => ⟨fun q5 => ⟨fun q6 => ⟨by first | decide | omega | contradiction | exact absurd trivial (by assumption), by first | decide | omega | contradiction | exact absurd trivial (by assumption), ?_⟩, fun q7 => ⟨by first | decide | omega | contradiction | exact absurd trivial (by assumption), by first | decide | omega | contradiction | exact absurd trivial (by assumption), ⟨by first | decide | omega | contradiction | exact absurd trivial (by assumption), by first | decide | omega | contradiction | exact absurd trivial (by assumption)⟩, ?_⟩⟩, fun q8 => ⟨by first | decide | omega | contradiction | exact absurd trivial (by assumption), by first | decide | omega | contradiction | exact absurd trivial (by assumption), ⟨by first | decide | omega | contradiction | exact absurd trivial (by assumption), by first | decide | omega | contradiction | exact absurd trivial (by assumption)⟩, ?_⟩⟩⟩, fun q9 => ?_⟩⟩, fun q10 => ?_⟩
    try (any_goals (exfalso; first | omega | exact absurd trivial (by assumption)))
    exact fin
theorem c_M_cell {a k : Int} (hQ : QM v W c S) (ha : isc (wR W) (wC W) a = true) (hk : 0 ≤ k ∧ k ≤ 3) (K : ∀ v' : zH, Fz v v' → QM v' W c S → v' 77 0 = 0 → Q (aCellV W S c a k) v') : zC l G 1 (d + 7) h_M_cell [(2, 77), (0, a), (0, k)] v 115 Q := by
  obtain ⟨hW, hM, hc, hO, hkS, hS⟩ := id hQ.1
  have hh := hQ.2.2
  have hcb := hc.1
  obtain ⟨x0, x1, x2, x3, x4, x5, x6, x7, x8⟩ := gE hW.1.2 hW.2.1 ha
  have h36 := is36 hW ha
  have fF : Fz v (zupd v 77 0 0) := ⟨fun b q => zup_a (by omega), fun j q _ _ _ _ _ => zup_j q⟩
  have fQ : QM (zupd v 77 0 0) W c S := ⟨MQc_fr (fun b q => zup_a (by omega)) (fun j q => zup_j (by omega)) hQ.1, (zup_j (by omega)).trans hQ.2.1, hQ.2.2⟩
  have hst := hc.2.1 _ h36.2.2.1 h36.2.2.2
  have h4 := hW.2.2.2.2.2.2.1
  unfold aCellV at K
  refine zC_at ok_M_cell ck_M_cell rfl rfl (sg_M_cell_0 ?_)
  try simp (disch := omega) only [zup_e, zup_ak, zup_j, Int.zero_add, Int.reduceAdd, mz78, mz79, mz80, mz81, mz82, mz83, mz84, mz85, mz86, mz87, mz88, mz89, mz90, mz91, mz92, mz93, mz94, mz95, mz96, mz97, mz98, mz99, mz100, mz101, mz102, mz103, mz104, mz105, mz106, mz107, mz108, mz109, mz110, mz111, mz112, mz113]
  refine ⟨by first | decide | omega | contradiction | exact absurd trivial (by assumption), ?_⟩
  try (any_goals (exfalso; first | omega | exact absurd trivial (by assumption)))
  refine m_cell hM ?_
  rw [if_pos ha]
  refine ⟨fun q1 => ⟨by first | decide | omega | contradiction | exact absurd trivial (by assumption), by first | decide | omega | contradiction | exact absurd trivial (by assumption), ⟨fun q2 => ⟨fun q3 => ⟨by first | decide | omega | contradiction | exact absurd trivial (by assumption), ?_⟩, fun q4 => ⟨fun q5 => ⟨fun q6 => ⟨by first | decide | omega | contradiction | exact absurd trivial (by assumption), by first | decide | omega | contradiction | exact absurd trivial (by assumption), ?_⟩, fun q7 => ⟨by first | decide | omega | contradiction | exact absurd trivial (by assumption), by first | decide | omega | contradiction | exact absurd trivial (by assumption), ⟨by first | decide | omega | contradiction | exact absurd trivial (by assumption), by first | decide | omega | contradiction | exact absurd trivial (by assumption)⟩, ?_⟩⟩, fun q8 => ⟨by first | decide | omega | contradiction | exact absurd trivial (by assumption), by first | decide | omega | contradiction | exact absurd trivial (by assumption), ⟨by first | decide | omega | contradiction | exact absurd trivial (by assumption), by first | decide | omega | contradiction | exact absurd trivial (by assumption)⟩, ?_⟩⟩⟩, fun q9 => ?_⟩⟩, fun q10 => ?_⟩
  try (any_goals (exfalso; first | omega | exact absurd trivial (by assumption)))
  refine c_M_in ?_
  rw [if_pos hk]
  show _
  simp (disch := omega) only [zup_ak, zup_j, zup_e, (hO.2.1 a ha).1, (hO.2.1 a ha).2, hO.1]
  have : k = 0 ∨ k = 1 ∨ k = 2 ∨ k = 3 := by omega
  rcases this with rfl | rfl | rfl | rfl
  · rw [if_pos rfl] at K
    refine ⟨fun q1 => ⟨by first | decide | omega | contradiction | exact absurd trivial (by assumption), by first | decide | omega | contradiction | exact absurd trivial (by assumption), ⟨fun q2 => ⟨fun q3 => ⟨by first | decide | omega | contradiction | exact absurd trivial (by assumption), ?_⟩, fun q4 => ⟨fun q5 => ⟨fun q6 => ⟨by first | decide | omega | contradiction | exact absurd trivial (by assumption), by first | decide | omega | contradiction | exact absurd trivial (by assumption), ?_⟩, fun q7 => ⟨by first | decide | omega | contradiction | exact absurd trivial (by assumption), by first | decide | omega | contradiction | exact absurd trivial (by assumption), ⟨by first | decide | omega | contradiction | exact absurd trivial (by assumption), by first | decide | omega | contradiction | exact absurd trivial (by assumption)⟩, ?_⟩⟩, fun q8 => ⟨by first | decide | omega | contradiction | exact absurd trivial (by assumption), by first | decide | omega | contradiction | exact absurd trivial (by assumption), ⟨by first | decide | omega | contradiction | exact absurd trivial (by assumption), by first | decide | omega | contradiction | exact absurd trivial (by assumption)⟩, ?_⟩⟩⟩, fun q9 => ?_⟩⟩, fun q10 => ⟨by first | decide | omega | contradiction | exact absurd trivial (by assumption), by first | decide | omega | contradiction | exact absurd trivial (by assumption), ⟨fun q11 => ⟨fun q12 => ⟨by first | decide | omega | contradiction | exact absurd trivial (by assumption), ?_⟩, fun q13 => ⟨fun q14 => ⟨fun q15 => ⟨by first | decide | omega | contradiction | exact absurd trivial (by assumption), by first | decide | omega | contradiction | exact absurd trivial (by assumption), ?_⟩, fun q16 => ⟨by first | decide | omega | contradiction | exact absurd trivial (by assumption), by first | decide | omega | contradiction | exact absurd trivial (by assumption), ⟨by first | decide | omega | contradiction | exact absurd trivial (by assumption), by first | decide | omega | contradiction | exact absurd trivial (by assumption)⟩, ?_⟩⟩, fun q17 => ⟨by first | decide | omega | contradiction | exact absurd trivial (by assumption), by first | decide | omega | contradiction | exact absurd trivial (by assumption), ⟨by first | decide | omega | contradiction | exact absurd trivial (by assumption), by first | decide | omega | contradiction | exact absurd trivial (by assumption)⟩, ?_⟩⟩⟩, fun q18 => ?_⟩⟩⟩
    try (any_goals (exfalso; first | omega | exact absurd trivial (by assumption)))
    exact K _ fF fQ zup_s
  · rw [if_neg (by omega), if_pos rfl] at K
    refine ⟨fun q1 => ⟨by first | decide | omega | contradiction | exact absurd trivial (by assumption), by first | decide | omega | contradiction | exact absurd trivial (by assumption), ⟨fun q2 => ⟨fun q3 => ⟨by first | decide | omega | contradiction | exact absurd trivial (by assumption), ?_⟩, fun q4 => ⟨fun q5 => ⟨fun q6 => ⟨by first | decide | omega | contradiction | exact absurd trivial (by assumption), by first | decide | omega | contradiction | exact absurd trivial (by assumption), ?_⟩, fun q7 => ⟨by first | decide | omega | contradiction | exact absurd trivial (by assumption), by first | decide | omega | contradiction | exact absurd trivial (by assumption), ⟨by first | decide | omega | contradiction | exact absurd trivial (by assumption), by first | decide | omega | contradiction | exact absurd trivial (by assumption)⟩, ?_⟩⟩, fun q8 => ⟨by first | decide | omega | contradiction | exact absurd trivial (by assumption), by first | decide | omega | contradiction | exact absurd trivial (by assumption), ⟨by first | decide | omega | contradiction | exact absurd trivial (by assumption), by first | decide | omega | contradiction | exact absurd trivial (by assumption)⟩, ?_⟩⟩⟩, fun q9 => ?_⟩⟩, fun q10 => ⟨by first | decide | omega | contradiction | exact absurd trivial (by assumption), by first | decide | omega | contradiction | exact absurd trivial (by assumption), ⟨fun q11 => ⟨fun q12 => ⟨by first | decide | omega | contradiction | exact absurd trivial (by assumption), ?_⟩, fun q13 => ⟨fun q14 => ⟨fun q15 => ⟨by first | decide | omega | contradiction | exact absurd trivial (by assumption), by first | decide | omega | contradiction | exact absurd trivial (by assumption), ?_⟩, fun q16 => ⟨by first | decide | omega | contradiction | exact absurd trivial (by assumption), by first | decide | omega | contradiction | exact absurd trivial (by assumption), ⟨by first | decide | omega | contradiction | exact absurd trivial (by assumption), by first | decide | omega | contradiction | exact absurd trivial (by assumption)⟩, ?_⟩⟩, fun q17 => ⟨by first | decide | omega | contradiction | exact absurd trivial (by assumption), by first | decide | omega | contradiction | exact absurd trivial (by assumption), ⟨by first | decide | omega | contradiction | exact absurd trivial (by assumption), by first | decide | omega | contradiction | exact absurd trivial (by assumption)⟩, ?_⟩⟩⟩, fun q18 => ?_⟩⟩⟩
    try (any_goals (exfalso; first | omega | exact absurd trivial (by assumption)))
    exact K _ fF fQ zup_s
  · rw [if_neg (by omega), if_neg (by omega), if_pos rfl, x2, x3] at K
    refine ⟨fun q1 => ⟨by first | decide | omega | contradiction | exact absurd trivial (by assumption), by first | decide | omega | contradiction | exact absurd trivial (by assumption), ⟨fun q2 => ⟨fun q3 => ⟨by first | decide | omega | contradiction | exact absurd trivial (by assumption), ?_⟩, fun q4 => ⟨fun q5 => ⟨fun q6 => ⟨by first | decide | omega | contradiction | exact absurd trivial (by assumption), by first | decide | omega | contradiction | exact absurd trivial (by assumption), ?_⟩, fun q7 => ⟨by first | decide | omega | contradiction | exact absurd trivial (by assumption), by first | decide | omega | contradiction | exact absurd trivial (by assumption), ⟨by first | decide | omega | contradiction | exact absurd trivial (by assumption), by first | decide | omega | contradiction | exact absurd trivial (by assumption)⟩, ?_⟩⟩, fun q8 => ⟨by first | decide | omega | contradiction | exact absurd trivial (by assumption), by first | decide | omega | contradiction | exact absurd trivial (by assumption), ⟨by first | decide | omega | contradiction | exact absurd trivial (by assumption), by first | decide | omega | contradiction | exact absurd trivial (by assumption)⟩, ?_⟩⟩⟩, fun q9 => ?_⟩⟩, fun q10 => ⟨by first | decide | omega | contradiction | exact absurd trivial (by assumption), by first | decide | omega | contradiction | exact absurd trivial (by assumption), ⟨fun q11 => ⟨fun q12 => ⟨by first | decide | omega | contradiction | exact absurd trivial (by assumption), ?_⟩, fun q13 => ⟨fun q14 => ⟨fun q15 => ⟨by first | decide | omega | contradiction | exact absurd trivial (by assumption), by first | decide | omega | contradiction | exact absurd trivial (by assumption), ?_⟩, fun q16 => ⟨by first | decide | omega | contradiction | exact absurd trivial (by assumption), by first | decide | omega | contradiction | exact absurd trivial (by assumption), ⟨by first | decide | omega | contradiction | exact absurd trivial (by assumption), by first | decide | omega | contradiction | exact absurd trivial (by assumption)⟩, ?_⟩⟩, fun q17 => ⟨by first | decide | omega | contradiction | exact absurd trivial (by assumption), by first | decide | omega | contradiction | exact absurd trivial (by assumption), ⟨by first | decide | omega | contradiction | exact absurd trivial (by assumption), by first | decide | omega | contradiction | exact absurd trivial (by assumption)⟩, ?_⟩⟩⟩, fun q18 => ?_⟩⟩⟩
    try (any_goals (exfalso; first | omega | exact absurd trivial (by assumption)))
    refine c_M_sunOn (s := cS c (ixn (wC W) a)) hkS fQ.1.2.2.2.2.2 (by omega) (by omega) (by rw [zup_a (by omega)]; exact (hO.2.1 a ha).2) (by omega) (fun v1 f1 => ?_)
    refine K v1 (Fz_tr fF ⟨fun b q => f1 b (by omega) (by omega), fun j _ _ _ _ _ _ => by rw [f1 77 (by omega) (by omega)]⟩) ⟨MQc_fr (fun b q => f1 b (by omega) (by omega)) (fun j q => by rw [f1 77 (by omega) (by omega)]) fQ.1, by rw [f1 77 (by omega) (by omega)]; exact fQ.2.1, hh⟩ (by rw [f1 77 (by omega) (by omega)]; exact zup_s)
  · rw [if_neg (by omega), if_neg (by omega), if_neg (by omega)] at K
    refine ⟨fun q1 => ⟨by first | decide | omega | contradiction | exact absurd trivial (by assumption), by first | decide | omega | contradiction | exact absurd trivial (by assumption), ⟨fun q2 => ⟨fun q3 => ⟨by first | decide | omega | contradiction | exact absurd trivial (by assumption), ?_⟩, fun q4 => ⟨fun q5 => ⟨fun q6 => ⟨by first | decide | omega | contradiction | exact absurd trivial (by assumption), by first | decide | omega | contradiction | exact absurd trivial (by assumption), ?_⟩, fun q7 => ⟨by first | decide | omega | contradiction | exact absurd trivial (by assumption), by first | decide | omega | contradiction | exact absurd trivial (by assumption), ⟨by first | decide | omega | contradiction | exact absurd trivial (by assumption), by first | decide | omega | contradiction | exact absurd trivial (by assumption)⟩, ?_⟩⟩, fun q8 => ⟨by first | decide | omega | contradiction | exact absurd trivial (by assumption), by first | decide | omega | contradiction | exact absurd trivial (by assumption), ⟨by first | decide | omega | contradiction | exact absurd trivial (by assumption), by first | decide | omega | contradiction | exact absurd trivial (by assumption)⟩, ?_⟩⟩⟩, fun q9 => ?_⟩⟩, fun q10 => ⟨by first | decide | omega | contradiction | exact absurd trivial (by assumption), by first | decide | omega | contradiction | exact absurd trivial (by assumption), ⟨fun q11 => ⟨fun q12 => ⟨by first | decide | omega | contradiction | exact absurd trivial (by assumption), ?_⟩, fun q13 => ⟨fun q14 => ⟨fun q15 => ⟨by first | decide | omega | contradiction | exact absurd trivial (by assumption), by first | decide | omega | contradiction | exact absurd trivial (by assumption), ?_⟩, fun q16 => ⟨by first | decide | omega | contradiction | exact absurd trivial (by assumption), by first | decide | omega | contradiction | exact absurd trivial (by assumption), ⟨by first | decide | omega | contradiction | exact absurd trivial (by assumption), by first | decide | omega | contradiction | exact absurd trivial (by assumption)⟩, ?_⟩⟩, fun q17 => ⟨by first | decide | omega | contradiction | exact absurd trivial (by assumption), by first | decide | omega | contradiction | exact absurd trivial (by assumption), ⟨by first | decide | omega | contradiction | exact absurd trivial (by assumption), by first | decide | omega | contradiction | exact absurd trivial (by assumption)⟩, ?_⟩⟩⟩, fun q18 => ?_⟩⟩⟩
    try (any_goals (exfalso; first | omega | exact absurd trivial (by assumption)))
    refine c_M_putAside fQ.1 (fun v1 a1 a2 a3 a4 a5 => ?_)
    refine ⟨by first | decide | omega | contradiction | exact absurd trivial (by assumption), ?_⟩
    have hMH : MH (zupd v 77 0 0) v1 W c S 0 := ⟨a1, a4, a5, a2 39 (by omega), a3 94 (by omega) (by omega), a3 96 (by omega) (by omega)⟩
    refine c_M_pass a4 (by omega) (fun v2 f1 f2 f3 => ?_)
    refine ⟨by first | decide | omega | contradiction | exact absurd trivial (by assumption), ?_⟩
    have hMH2 : MH (zupd v 77 0 0) v2 W c S 1 := ⟨Fz_tr a1 (Fz_p f1), f2, MA_p f1 a5, (f1.2 39 (by omega)).trans (a2 39 (by omega)), by rw [f1.1 94 (by omega) (by omega) (by omega) (by omega) (by omega) (by omega) (by omega)]; exact a3 94 (by omega) (by omega), by rw [f1.1 96 (by omega) (by omega) (by omega) (by omega) (by omega) (by omega) (by omega)]; exact a3 96 (by omega) (by omega)⟩
    refine c_M_takeBack hMH2.2.1 hMH2.2.2.1 hc (sSt_k 1) (fun v3 y1 y2 y3 y4 => ?_)
    have e : v3 100 a = sFk W (sSn S) (kR S) c 0 (ixn (wC W) a) := by rw [y3 100 (by omega) (by omega)]; exact (f3 a ha).1
    rw [e]
    refine ⟨by first | decide | omega | contradiction | exact absurd trivial (by assumption), by first | decide | omega | contradiction | exact absurd trivial (by assumption), ⟨by first | decide | omega | contradiction | exact absurd trivial (by assumption), by first | decide | omega | contradiction | exact absurd trivial (by assumption)⟩, ?_⟩
    refine K v3 (Fz_tr fF (Fz_tr hMH2.1 y1)) ⟨y4, ?_, hh⟩ ?_
    · rw [y2 39 (by omega), hMH2.2.2.2.1]; exact fQ.2.1
    · rw [y2 0 (by omega), f1.2 0 (by omega), a2 0 (by omega)]; exact zup_s
end
