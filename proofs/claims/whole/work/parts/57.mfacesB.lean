/-! THE REFERENCE: questions B -/
theorem W_R1 {W : zWl} (hW : Wok W) {a : Int} (ha : isc (wR W) (wC W) a = true) : 0 < wR W := by
  have := gE hW.1.2 hW.2.1 ha
  omega
theorem isc_0 {W : zWl} (hW : Wok W) (hR : 0 < wR W) : isc (wR W) (wC W) 0 = true ∧ ixn (wC W) 0 = 0 := by
  have h := hW.2.2.2.2.1 (by omega)
  refine ⟨?_, ?_⟩
  · rw [isc_iff]
    omega
  · unfold ixn
    simp
section
variable {l : Launch} {G : zG} {d : Nat} {v : zH} {Q : Int → zH → Prop} {W : zWl} {c : zCo} {S : zSk}
theorem sp_21 {n : Nat} {v0 : zH} {f : Int → Int} {QX : Nat → zH → Prop} (hQ : QM v0 W c S) (hH : MH v0 v W c S n) (hf : ∀ a : Int, isc (wR W) (wC W) a = true → v 97 a = f (ixn (wC W) a) ∧ 0 ≤ f (ixn (wC W) a) ∧ f (ixn (wC W) a) ≤ 99)
    (K : ∀ v' : zH, Fz v0 v' → QM v' W c S → Q (fd (fun m a => max m (f a)) 0 (wN W).toNat - fd (fun m a => min m (f a)) 99 (wN W).toNat) v') :
    ∀ (m i : Nat), i + m = 36 → 0 ≤ fd (fun m o => if isc (wR W) (wC W) o = true then min m (f (ixn (wC W) o)) else m) 99 i ∧ fd (fun m o => if isc (wR W) (wC W) o = true then min m (f (ixn (wC W) o)) else m) 99 i ≤ 99 → 0 ≤ fd (fun m o => if isc (wR W) (wC W) o = true then max m (f (ixn (wC W) o)) else m) 0 i ∧ fd (fun m o => if isc (wR W) (wC W) o = true then max m (f (ixn (wC W) o)) else m) 0 i ≤ 99 →
    zJ l G 1 (d + 8) h_M_spread k_M_spread 115 Q QX 21 [(2, 77), (3, 0), (0, fd (fun m o => if isc (wR W) (wC W) o = true then min m (f (ixn (wC W) o)) else m) 99 i), (0, fd (fun m o => if isc (wR W) (wC W) o = true then max m (f (ixn (wC W) o)) else m) 0 i), (0, (i : Int))] [] v 115
  | m, i, hi, b1, b2 => by
    obtain ⟨hW, hM0, hc, -⟩ := id hQ.1
    have hM := hH.2.1.2.1
    match m, hi with
    | 0, hi =>
      have e : i = 36 := by omega
      subst e
      rw [fd_nm (g := fun m x => min m (f x)) hW.1 hW.2.1, ← hW.2.2.1] at b1 ⊢
      rw [fd_nm (g := fun m x => max m (f x)) hW.1 hW.2.1, ← hW.2.2.1] at b2 ⊢
      refine zgo ck_M_spread 300 21 _ _ _ _ rfl (sg_M_spread_21 ?_)
      try simp (disch := omega) only [zup_e, zup_ak, zup_j, Int.zero_add, Int.reduceAdd, mz78, mz79, mz80, mz81, mz82, mz83, mz84, mz85, mz86, mz87, mz88, mz89, mz90, mz91, mz92, mz93, mz94, mz95, mz96, mz97, mz98, mz99, mz100, mz101, mz102, mz103, mz104, mz105, mz106, mz107, mz108, mz109, mz110, mz111, mz112, mz113]
      refine ⟨fun q1 => ⟨by first | decide | omega | contradiction | exact absurd trivial (by assumption), ?_⟩, fun q2 => ⟨by first | decide | omega | contradiction | exact absurd trivial (by assumption), ?_⟩⟩
      try (any_goals (exfalso; first | omega | exact absurd trivial (by assumption)))
      refine m_qtb hQ hH (fun v1 y1 y2 _ => ?_)
      refine ⟨⟨by first | decide | omega | contradiction | exact absurd trivial (by assumption), by first | decide | omega | contradiction | exact absurd trivial (by assumption)⟩, ?_⟩
      exact K v1 y1 y2
    | m + 1, hi =>
      have en : fd (fun m o => if isc (wR W) (wC W) o = true then min m (f (ixn (wC W) o)) else m) 99 (i + 1) = if isc (wR W) (wC W) i = true then min (fd (fun m o => if isc (wR W) (wC W) o = true then min m (f (ixn (wC W) o)) else m) 99 i) (f (ixn (wC W) i)) else fd (fun m o => if isc (wR W) (wC W) o = true then min m (f (ixn (wC W) o)) else m) 99 i := rfl
      have ex : fd (fun m o => if isc (wR W) (wC W) o = true then max m (f (ixn (wC W) o)) else m) 0 (i + 1) = if isc (wR W) (wC W) i = true then max (fd (fun m o => if isc (wR W) (wC W) o = true then max m (f (ixn (wC W) o)) else m) 0 i) (f (ixn (wC W) i)) else fd (fun m o => if isc (wR W) (wC W) o = true then max m (f (ixn (wC W) o)) else m) 0 i := rfl
      have g := sp_21 (QX := QX) hQ hH hf K m (i + 1) (by omega)
      refine zgo ck_M_spread 300 21 _ _ _ _ rfl (sg_M_spread_21 ?_)
      try simp (disch := omega) only [zup_e, zup_ak, zup_j, Int.zero_add, Int.reduceAdd, mz78, mz79, mz80, mz81, mz82, mz83, mz84, mz85, mz86, mz87, mz88, mz89, mz90, mz91, mz92, mz93, mz94, mz95, mz96, mz97, mz98, mz99, mz100, mz101, mz102, mz103, mz104, mz105, mz106, mz107, mz108, mz109, mz110, mz111, mz112, mz113]
      refine ⟨fun q1 => ⟨by first | decide | omega | contradiction | exact absurd trivial (by assumption), ?_⟩, fun q2 => ⟨by first | decide | omega | contradiction | exact absurd trivial (by assumption), ?_⟩⟩
      try (any_goals (exfalso; first | omega | exact absurd trivial (by assumption)))
      refine m_cell hM ?_
      by_cases ha : isc (wR W) (wC W) i = true
      · have h36 := is36 hW ha
        have e := hf i ha
        rw [if_pos ha] at en ex
        rw [en, ex] at g
        rw [if_pos ha]
        show _
        simp only [e.1]
        refine ⟨fun q1 => ⟨by first | decide | omega | contradiction | exact absurd trivial (by assumption), ?_⟩, fun q2 => ⟨by first | decide | omega | contradiction | exact absurd trivial (by assumption), by first | decide | omega | contradiction | exact absurd trivial (by assumption), ⟨by first | decide | omega | contradiction | exact absurd trivial (by assumption), by first | decide | omega | contradiction | exact absurd trivial (by assumption)⟩, by first | decide | omega | contradiction | exact absurd trivial (by assumption), ?_⟩⟩
        try (any_goals (exfalso; first | omega | exact absurd trivial (by assumption)))
        refine m_cell hM ?_
        rw [if_pos ha]
        show _
        simp only [e.1]
        refine ⟨fun q1 => ⟨⟨by first | decide | omega | contradiction | exact absurd trivial (by assumption), by first | decide | omega | contradiction | exact absurd trivial (by assumption)⟩, ?_⟩, fun q2 => ⟨by first | decide | omega | contradiction | exact absurd trivial (by assumption), by first | decide | omega | contradiction | exact absurd trivial (by assumption), ⟨by first | decide | omega | contradiction | exact absurd trivial (by assumption), by first | decide | omega | contradiction | exact absurd trivial (by assumption)⟩, ⟨by first | decide | omega | contradiction | exact absurd trivial (by assumption), by first | decide | omega | contradiction | exact absurd trivial (by assumption)⟩, ?_⟩⟩
        try (any_goals (exfalso; first | omega | exact absurd trivial (by assumption)))
        exact g (by omega) (by omega)
      · rw [if_neg ha] at en ex
        rw [en, ex] at g
        rw [if_neg ha]
        refine ⟨fun q1 => ⟨by first | decide | omega | contradiction | exact absurd trivial (by assumption), ?_⟩, fun q2 => ⟨by first | decide | omega | contradiction | exact absurd trivial (by assumption), by first | decide | omega | contradiction | exact absurd trivial (by assumption), ⟨by first | decide | omega | contradiction | exact absurd trivial (by assumption), by first | decide | omega | contradiction | exact absurd trivial (by assumption)⟩, by first | decide | omega | contradiction | exact absurd trivial (by assumption), ?_⟩⟩
        try (any_goals (exfalso; first | omega | exact absurd trivial (by assumption)))
        refine m_cell hM ?_
        rw [if_neg ha]
        refine ⟨fun q1 => ⟨⟨by first | decide | omega | contradiction | exact absurd trivial (by assumption), by first | decide | omega | contradiction | exact absurd trivial (by assumption)⟩, ?_⟩, fun q2 => ⟨by first | decide | omega | contradiction | exact absurd trivial (by assumption), by first | decide | omega | contradiction | exact absurd trivial (by assumption), ⟨by first | decide | omega | contradiction | exact absurd trivial (by assumption), by first | decide | omega | contradiction | exact absurd trivial (by assumption)⟩, ⟨by first | decide | omega | contradiction | exact absurd trivial (by assumption), by first | decide | omega | contradiction | exact absurd trivial (by assumption)⟩, ?_⟩⟩
        try (any_goals (exfalso; first | omega | exact absurd trivial (by assumption)))
        exact g b1 b2
theorem c_M_spread {n : Int} (hQ : QM v W c S) (K : ∀ v' : zH, Fz v v' → QM v' W c S → Q (aSpread W S c n) v') : zC l G 1 (d + 8) h_M_spread [(2, 77), (0, n)] v 115 Q := by
  obtain ⟨hW, hM, hc, -⟩ := id hQ.1
  have hh := hQ.2.2
  have hR4 := hW.1
  unfold aSpread at K
  refine zC_at ok_M_spread ck_M_spread rfl rfl (sg_M_spread_0 ?_)
  try simp (disch := omega) only [zup_e, zup_ak, zup_j, Int.zero_add, Int.reduceAdd, mz78, mz79, mz80, mz81, mz82, mz83, mz84, mz85, mz86, mz87, mz88, mz89, mz90, mz91, mz92, mz93, mz94, mz95, mz96, mz97, mz98, mz99, mz100, mz101, mz102, mz103, mz104, mz105, mz106, mz107, mz108, mz109, mz110, mz111, mz112, mz113, hM.2.1]
  refine ⟨by first | decide | omega | contradiction | exact absurd trivial (by assumption), ⟨fun q1 => ?_, fun q2 => ?_⟩⟩
  try (any_goals (exfalso; first | omega | exact absurd trivial (by assumption)))
  · rw [if_neg (fun q => by omega)] at K
    exact K v Fz_rf hQ
  refine c_M_in ?_
  by_cases hn : 0 ≤ n ∧ n ≤ 72
  rotate_left
  · rw [if_neg hn]
    rw [if_neg (fun q => hn q.2)] at K
    refine ⟨fun q1 => ⟨by first | decide | omega | contradiction | exact absurd trivial (by assumption), ?_⟩, fun q2 => ?_⟩
    try (any_goals (exfalso; first | omega | exact absurd trivial (by assumption)))
    exact K v Fz_rf hQ
  rw [if_pos hn]
  rw [if_pos ⟨by omega, hn⟩] at K
  obtain ⟨m, rfl⟩ : ∃ m : Nat, n = m := ⟨n.toNat, by omega⟩
  rw [Int.toNat_natCast] at K
  have hw1 := hW.2.2.2.2.1 (by omega)
  refine ⟨fun q1 => ⟨by first | decide | omega | contradiction | exact absurd trivial (by assumption), ?_⟩, fun q2 => ?_⟩
  try (any_goals (exfalso; first | omega | exact absurd trivial (by assumption)))
  refine m_pa hQ.1 (fun v1 g1 => ?_)
  refine ⟨by first | decide | omega | contradiction | exact absurd trivial (by assumption), ?_⟩
  refine c_M_passAll g1.2.1 (by have : cH (sSt W (sSn S) (kR S) c 0) = cH c := rfl; omega) (by omega) (fun v2 f1 f2 f3 => ?_)
  have f2 : MQc v2 W (sSt W (sSn S) (kR S) c m) S := f2
  have g2 : MH v v2 W c S m := ⟨Fz_tr g1.1 (Fz_p f1), f2, MA_p f1 g1.2.2.1, (f1.2 39 (by omega)).trans g1.2.2.2.1, by rw [f1.1 94 (by omega) (by omega) (by omega) (by omega) (by omega) (by omega) (by omega)]; exact g1.2.2.2.2.1, by rw [f1.1 96 (by omega) (by omega) (by omega) (by omega) (by omega) (by omega) (by omega)]; exact g1.2.2.2.2.2⟩
  have hcw := fun a ha => m_cw (S := S) (k := m) (a := a) hW hc (by omega) ha
  have h0 := isc_0 hW (by omega)
  have hc0 := hcw 0 h0.1
  rw [h0.2] at hc0
  obtain ⟨N, hN⟩ : ∃ N : Nat, (wN W).toNat = N + 1 := ⟨(wN W).toNat - 1, by omega⟩
  refine sp_21 (f := cW (sSt W (sSn S) (kR S) c m)) hQ g2 (fun a ha => ⟨(f2.2.2.2.1.2.1 a ha).1, hcw a ha⟩) (fun v' y1 y2 => ?_) 36 0 (by omega) ⟨by show (0 : Int) ≤ 99; omega, by show (99 : Int) ≤ 99; omega⟩ ⟨by show (0 : Int) ≤ 0; omega, by show (0 : Int) ≤ 99; omega⟩
  rw [hN, fd_min (by omega), fd_max (by omega), ← hN]
  exact K v' y1 y2
theorem fl_24 {a : Int} {n : Nat} {v0 : zH} {QX : Nat → zH → Prop} (hQ : QM v0 W c S) (hn : n ≤ 72) (ha : isc (wR W) (wC W) a = true) (K : ∀ v' : zH, Fz v0 v' → QM v' W c S → Q (zsm (fun k => sGiv W (sSt W (sSn S) (kR S) c k.toNat) (ixn (wC W) a) / 4) n) v') :
    ∀ (m k : Nat) {v : zH}, k + m = n → MH v0 v W c S k → zJ l G 1 (d + 8) h_M_flow k_M_flow 115 Q QX 24 [(2, 77), (0, a), (3, 0), (0, (n : Int)), (0, zsm (fun k => sGiv W (sSt W (sSn S) (kR S) c k.toNat) (ixn (wC W) a) / 4) k), (0, (k : Int))] [] v 115
  | m, k, v, hk, hH => by
    obtain ⟨hW, hM0, hc, -⟩ := id hQ.1
    have hh := hQ.2.2
    have h36 := is36 hW ha
    have hg : ∀ i : Int, 0 ≤ i → i < 100 → 0 ≤ sGiv W (sSt W (sSn S) (kR S) c i.toNat) (ixn (wC W) a) / 4 ∧ sGiv W (sSt W (sSn S) (kR S) c i.toNat) (ixn (wC W) a) / 4 ≤ 24 := fun i i1 i2 => by
      have := sGiv_b hW (Cok_st (sn := sSn S) (rn := kR S) snOk_S hW hc i.toNat (by omega)) h36.2.2.1 h36.2.2.2
      omega
    have hb := zsm_b (f := fun k => sGiv W (sSt W (sSn S) (kR S) c k.toNat) (ixn (wC W) a) / 4) (k := 24) k (fun i i1 i2 => hg i i1 (by omega))
    match m, hk with
    | 0, hk =>
      have e : k = n := by omega
      subst e
      refine zgo ck_M_flow 300 24 _ _ _ _ rfl (sg_M_flow_24 ?_)
      try simp (disch := omega) only [zup_e, zup_ak, zup_j, Int.zero_add, Int.reduceAdd, mz78, mz79, mz80, mz81, mz82, mz83, mz84, mz85, mz86, mz87, mz88, mz89, mz90, mz91, mz92, mz93, mz94, mz95, mz96, mz97, mz98, mz99, mz100, mz101, mz102, mz103, mz104, mz105, mz106, mz107, mz108, mz109, mz110, mz111, mz112, mz113]
      refine ⟨fun q1 => ⟨by first | decide | omega | contradiction | exact absurd trivial (by assumption), ?_⟩, fun q2 => ⟨by first | decide | omega | contradiction | exact absurd trivial (by assumption), ?_⟩⟩
      try (any_goals (exfalso; first | omega | exact absurd trivial (by assumption)))
      refine m_qtb hQ hH (fun v1 y1 y2 _ => ?_)
      exact K v1 y1 y2
    | m + 1, hk =>
      have es := zsm_s (g := fun k => sGiv W (sSt W (sSn S) (kR S) c k.toNat) (ixn (wC W) a) / 4) (n := k)
      have hgk := hg k (by omega) (by omega)
      rw [Int.toNat_natCast] at es hgk
      refine zgo ck_M_flow 300 24 _ _ _ _ rfl (sg_M_flow_24 ?_)
      try simp (disch := omega) only [zup_e, zup_ak, zup_j, Int.zero_add, Int.reduceAdd, mz78, mz79, mz80, mz81, mz82, mz83, mz84, mz85, mz86, mz87, mz88, mz89, mz90, mz91, mz92, mz93, mz94, mz95, mz96, mz97, mz98, mz99, mz100, mz101, mz102, mz103, mz104, mz105, mz106, mz107, mz108, mz109, mz110, mz111, mz112, mz113]
      refine ⟨fun q1 => ⟨by first | decide | omega | contradiction | exact absurd trivial (by assumption), ?_⟩, fun q2 => ⟨by first | decide | omega | contradiction | exact absurd trivial (by assumption), ?_⟩⟩
      try (any_goals (exfalso; first | omega | exact absurd trivial (by assumption)))
      refine m_ps hH (by omega) (fun v1 f1 f2 f3 => ?_)
      have e := (f2 a ha).2
      show _
      simp only [e]
      refine ⟨by first | decide | omega | contradiction | exact absurd trivial (by assumption), by first | decide | omega | contradiction | exact absurd trivial (by assumption), ⟨by first | decide | omega | contradiction | exact absurd trivial (by assumption), by first | decide | omega | contradiction | exact absurd trivial (by assumption)⟩, ⟨by first | decide | omega | contradiction | exact absurd trivial (by assumption), by first | decide | omega | contradiction | exact absurd trivial (by assumption)⟩, ⟨by first | decide | omega | contradiction | exact absurd trivial (by assumption), by first | decide | omega | contradiction | exact absurd trivial (by assumption)⟩, ?_⟩
      have g := fl_24 (QX := QX) hQ hn ha K m (k + 1) (by omega) f1
      rw [es] at g
      exact g
theorem c_M_flow {a b n : Int} (hQ : QM v W c S) (K : ∀ v' : zH, Fz v v' → QM v' W c S → Q (aFlow W S c a b n) v') : zC l G 1 (d + 8) h_M_flow [(2, 77), (0, a), (0, b), (0, n)] v 115 Q := by
  obtain ⟨hW, hM, hc, -⟩ := id hQ.1
  unfold aFlow at K
  refine zC_at ok_M_flow ck_M_flow rfl rfl (sg_M_flow_0 ?_)
  try simp (disch := omega) only [zup_e, zup_ak, zup_j, Int.zero_add, Int.reduceAdd, mz78, mz79, mz80, mz81, mz82, mz83, mz84, mz85, mz86, mz87, mz88, mz89, mz90, mz91, mz92, mz93, mz94, mz95, mz96, mz97, mz98, mz99, mz100, mz101, mz102, mz103, mz104, mz105, mz106, mz107, mz108, mz109, mz110, mz111, mz112, mz113]
  refine ⟨by first | decide | omega | contradiction | exact absurd trivial (by assumption), ?_⟩
  try (any_goals (exfalso; first | omega | exact absurd trivial (by assumption)))
  refine m_cell hM ?_
  by_cases ha : isc (wR W) (wC W) a = true
  rotate_left
  · rw [if_neg ha]
    rw [if_neg (fun q => ha q.1)] at K
    refine ⟨fun q1 => ?_, fun q2 => ⟨by first | decide | omega | contradiction | exact absurd trivial (by assumption), ?_⟩⟩
    try (any_goals (exfalso; first | omega | exact absurd trivial (by assumption)))
    exact K v Fz_rf hQ
  rw [if_pos ha]
  have ha36 := is36 hW ha
  refine ⟨fun q1 => ?_, fun q2 => ⟨by first | decide | omega | contradiction | exact absurd trivial (by assumption), ?_⟩⟩
  try (any_goals (exfalso; first | omega | exact absurd trivial (by assumption)))
  refine m_cell hM ?_
  by_cases hb : isc (wR W) (wC W) b = true
  rotate_left
  · rw [if_neg hb]
    rw [if_neg (fun q => hb q.2.1)] at K
    refine ⟨fun q1 => ?_, fun q2 => ?_⟩
    try (any_goals (exfalso; first | omega | exact absurd trivial (by assumption)))
    exact K v Fz_rf hQ
  rw [if_pos hb]
  have hb36 := is36 hW hb
  refine ⟨fun q1 => ?_, fun q2 => ?_⟩
  try (any_goals (exfalso; first | omega | exact absurd trivial (by assumption)))
  refine c_M_areBeside (by omega) (by omega) ?_
  rw [adj_nm hW.1.2 hW.2.1 ha hb]
  by_cases hj : adj (wC W) (ixn (wC W) a) (ixn (wC W) b) = true
  rotate_left
  · rw [if_neg hj]
    rw [if_neg (fun q => hj q.2.2.1)] at K
    refine ⟨fun q1 => ?_, fun q2 => ⟨by first | decide | omega | contradiction | exact absurd trivial (by assumption), ?_⟩⟩
    try (any_goals (exfalso; first | omega | exact absurd trivial (by assumption)))
    exact K v Fz_rf hQ
  rw [if_pos hj]
  refine ⟨fun q1 => ?_, fun q2 => ⟨by first | decide | omega | contradiction | exact absurd trivial (by assumption), ?_⟩⟩
  try (any_goals (exfalso; first | omega | exact absurd trivial (by assumption)))
  refine c_M_areHours hM ?_
  by_cases hn : 1 ≤ n ∧ n ≤ 72
  rotate_left
  · rw [if_neg (fun q => hn q.2)]
    rw [if_neg (fun q => hn q.2.2.2)] at K
    refine ⟨fun q1 => ⟨by first | decide | omega | contradiction | exact absurd trivial (by assumption), ?_⟩, fun q2 => ?_⟩
    try (any_goals (exfalso; first | omega | exact absurd trivial (by assumption)))
    exact K v Fz_rf hQ
  rw [if_pos ⟨W_R1 hW ha, hn⟩]
  rw [if_pos ⟨ha, hb, hj, hn⟩] at K
  obtain ⟨m, rfl⟩ : ∃ m : Nat, n = m := ⟨n.toNat, by omega⟩
  rw [Int.toNat_natCast] at K
  refine ⟨fun q1 => ⟨by first | decide | omega | contradiction | exact absurd trivial (by assumption), ?_⟩, fun q2 => ?_⟩
  try (any_goals (exfalso; first | omega | exact absurd trivial (by assumption)))
  refine m_pa hQ.1 (fun v1 g1 => ?_)
  exact fl_24 hQ (by omega) ha K m 0 (by omega) g1
theorem th_17 {a x : Int} {v0 : zH} {QX : Nat → zH → Prop} (hQ : QM v0 W c S) (ha : isc (wR W) (wC W) a = true) (K : ∀ v' : zH, Fz v0 v' → QM v' W c S → Q (sThw W S c (ixn (wC W) a) x 73) v') :
    ∀ (m k : Nat) {v : zH}, k + m = 73 → MH v0 v W c S k → zJ l G 1 (d + 8) h_M_thaw k_M_thaw 115 Q QX 17 [(2, 77), (0, a), (0, x), (0, sThw W S c (ixn (wC W) a) x k), (0, (k : Int))] [] v 115
  | m, k, v, hk, hH => by
    obtain ⟨hW, hM0, hc, -⟩ := id hQ.1
    have hh := hQ.2.2
    have h36 := is36 hW ha
    match m, hk with
    | 0, hk =>
      have e : k = 73 := by omega
      subst e
      refine zgo ck_M_thaw 300 17 _ _ _ _ rfl (sg_M_thaw_17 ?_)
      try simp (disch := omega) only [zup_e, zup_ak, zup_j, Int.zero_add, Int.reduceAdd, mz78, mz79, mz80, mz81, mz82, mz83, mz84, mz85, mz86, mz87, mz88, mz89, mz90, mz91, mz92, mz93, mz94, mz95, mz96, mz97, mz98, mz99, mz100, mz101, mz102, mz103, mz104, mz105, mz106, mz107, mz108, mz109, mz110, mz111, mz112, mz113]
      refine ⟨fun q1 => ⟨by first | decide | omega | contradiction | exact absurd trivial (by assumption), ?_⟩, fun q2 => ⟨fun q3 => ⟨by first | decide | omega | contradiction | exact absurd trivial (by assumption), ?_⟩, fun q4 => ⟨by first | decide | omega | contradiction | exact absurd trivial (by assumption), by first | decide | omega | contradiction | exact absurd trivial (by assumption), ⟨by first | decide | omega | contradiction | exact absurd trivial (by assumption), by first | decide | omega | contradiction | exact absurd trivial (by assumption)⟩, ⟨fun q5 => ⟨by first | decide | omega | contradiction | exact absurd trivial (by assumption), ?_⟩, fun q6 => ⟨by first | decide | omega | contradiction | exact absurd trivial (by assumption), ?_⟩⟩⟩⟩⟩
      try (any_goals (exfalso; first | omega | exact absurd trivial (by assumption)))
      refine m_qtb hQ hH (fun v1 y1 y2 _ => ?_)
      exact K v1 y1 y2
    | m + 1, hk =>
      have es := thw_s (W := W) (S := S) (c := c) (a := ixn (wC W) a) (x := x) (n := k)
      have e97 := (hH.2.1.2.2.2.1.2.1 a ha).1
      by_cases hf : sThw W S c (ixn (wC W) a) x k = -1
      · rw [hf] at es
        by_cases hx : x ≤ cW (sSt W (sSn S) (kR S) c k) (ixn (wC W) a)
        · rw [if_pos ⟨rfl, hx⟩] at es
          rw [hf]
          refine zgo ck_M_thaw 300 17 _ _ _ _ rfl (sg_M_thaw_17 ?_)
          try simp (disch := omega) only [zup_e, zup_ak, zup_j, Int.zero_add, Int.reduceAdd, mz78, mz79, mz80, mz81, mz82, mz83, mz84, mz85, mz86, mz87, mz88, mz89, mz90, mz91, mz92, mz93, mz94, mz95, mz96, mz97, mz98, mz99, mz100, mz101, mz102, mz103, mz104, mz105, mz106, mz107, mz108, mz109, mz110, mz111, mz112, mz113, e97]
          refine ⟨fun q1 => ⟨by first | decide | omega | contradiction | exact absurd trivial (by assumption), ?_⟩, fun q2 => ⟨fun q3 => ⟨by first | decide | omega | contradiction | exact absurd trivial (by assumption), ?_⟩, fun q4 => ⟨by first | decide | omega | contradiction | exact absurd trivial (by assumption), by first | decide | omega | contradiction | exact absurd trivial (by assumption), ⟨by first | decide | omega | contradiction | exact absurd trivial (by assumption), by first | decide | omega | contradiction | exact absurd trivial (by assumption)⟩, ⟨fun q5 => ⟨by first | decide | omega | contradiction | exact absurd trivial (by assumption), ?_⟩, fun q6 => ⟨by first | decide | omega | contradiction | exact absurd trivial (by assumption), ?_⟩⟩⟩⟩⟩
          try (any_goals (exfalso; first | omega | exact absurd trivial (by assumption)))
          refine m_ps hH (by omega) (fun v1 f1 f2 f3 => ?_)
          refine ⟨⟨by first | decide | omega | contradiction | exact absurd trivial (by assumption), by first | decide | omega | contradiction | exact absurd trivial (by assumption)⟩, ?_⟩
          have g := th_17 (QX := QX) hQ ha K m (k + 1) (by omega) f1
          rw [es] at g
          exact g
        · rw [if_neg (fun q => hx q.2)] at es
          rw [hf]
          refine zgo ck_M_thaw 300 17 _ _ _ _ rfl (sg_M_thaw_17 ?_)
          try simp (disch := omega) only [zup_e, zup_ak, zup_j, Int.zero_add, Int.reduceAdd, mz78, mz79, mz80, mz81, mz82, mz83, mz84, mz85, mz86, mz87, mz88, mz89, mz90, mz91, mz92, mz93, mz94, mz95, mz96, mz97, mz98, mz99, mz100, mz101, mz102, mz103, mz104, mz105, mz106, mz107, mz108, mz109, mz110, mz111, mz112, mz113, e97]
          refine ⟨fun q1 => ⟨by first | decide | omega | contradiction | exact absurd trivial (by assumption), ?_⟩, fun q2 => ⟨fun q3 => ⟨by first | decide | omega | contradiction | exact absurd trivial (by assumption), ?_⟩, fun q4 => ⟨by first | decide | omega | contradiction | exact absurd trivial (by assumption), by first | decide | omega | contradiction | exact absurd trivial (by assumption), ⟨by first | decide | omega | contradiction | exact absurd trivial (by assumption), by first | decide | omega | contradiction | exact absurd trivial (by assumption)⟩, ⟨fun q5 => ⟨by first | decide | omega | contradiction | exact absurd trivial (by assumption), ?_⟩, fun q6 => ⟨by first | decide | omega | contradiction | exact absurd trivial (by assumption), ?_⟩⟩⟩⟩⟩
          try (any_goals (exfalso; first | omega | exact absurd trivial (by assumption)))
          refine m_ps hH (by omega) (fun v1 f1 f2 f3 => ?_)
          refine ⟨⟨by first | decide | omega | contradiction | exact absurd trivial (by assumption), by first | decide | omega | contradiction | exact absurd trivial (by assumption)⟩, ?_⟩
          have g := th_17 (QX := QX) hQ ha K m (k + 1) (by omega) f1
          rw [es] at g
          exact g
      · have em := thw_m (W := W) (S := S) (c := c) (a := ixn (wC W) a) (x := x) hf (m + 1)
        rw [hk] at em
        rw [em] at K
        refine zgo ck_M_thaw 300 17 _ _ _ _ rfl (sg_M_thaw_17 ?_)
        try simp (disch := omega) only [zup_e, zup_ak, zup_j, Int.zero_add, Int.reduceAdd, mz78, mz79, mz80, mz81, mz82, mz83, mz84, mz85, mz86, mz87, mz88, mz89, mz90, mz91, mz92, mz93, mz94, mz95, mz96, mz97, mz98, mz99, mz100, mz101, mz102, mz103, mz104, mz105, mz106, mz107, mz108, mz109, mz110, mz111, mz112, mz113, e97]
        refine ⟨fun q1 => ⟨by first | decide | omega | contradiction | exact absurd trivial (by assumption), ?_⟩, fun q2 => ⟨fun q3 => ⟨by first | decide | omega | contradiction | exact absurd trivial (by assumption), ?_⟩, fun q4 => ⟨by first | decide | omega | contradiction | exact absurd trivial (by assumption), by first | decide | omega | contradiction | exact absurd trivial (by assumption), ⟨by first | decide | omega | contradiction | exact absurd trivial (by assumption), by first | decide | omega | contradiction | exact absurd trivial (by assumption)⟩, ⟨fun q5 => ⟨by first | decide | omega | contradiction | exact absurd trivial (by assumption), ?_⟩, fun q6 => ⟨by first | decide | omega | contradiction | exact absurd trivial (by assumption), ?_⟩⟩⟩⟩⟩
        try (any_goals (exfalso; first | omega | exact absurd trivial (by assumption)))
        refine m_qtb hQ hH (fun v1 y1 y2 _ => ?_)
        exact K v1 y1 y2
theorem c_M_thaw {a x : Int} (hQ : QM v W c S) (K : ∀ v' : zH, Fz v v' → QM v' W c S → Q (aThaw W S c a x) v') : zC l G 1 (d + 8) h_M_thaw [(2, 77), (0, a), (0, x)] v 115 Q := by
  obtain ⟨hW, hM, hc, -⟩ := id hQ.1
  unfold aThaw at K
  refine zC_at ok_M_thaw ck_M_thaw rfl rfl (sg_M_thaw_0 ?_)
  try simp (disch := omega) only [zup_e, zup_ak, zup_j, Int.zero_add, Int.reduceAdd, mz78, mz79, mz80, mz81, mz82, mz83, mz84, mz85, mz86, mz87, mz88, mz89, mz90, mz91, mz92, mz93, mz94, mz95, mz96, mz97, mz98, mz99, mz100, mz101, mz102, mz103, mz104, mz105, mz106, mz107, mz108, mz109, mz110, mz111, mz112, mz113]
  refine ⟨by first | decide | omega | contradiction | exact absurd trivial (by assumption), ?_⟩
  try (any_goals (exfalso; first | omega | exact absurd trivial (by assumption)))
  refine m_cell hM ?_
  by_cases ha : isc (wR W) (wC W) a = true
  rotate_left
  · rw [if_neg ha]
    rw [if_neg (fun q => ha q.1)] at K
    refine ⟨fun q1 => ?_, fun q2 => ?_⟩
    try (any_goals (exfalso; first | omega | exact absurd trivial (by assumption)))
    exact K v Fz_rf hQ
  rw [if_pos ha]
  refine ⟨fun q1 => ?_, fun q2 => ?_⟩
  try (any_goals (exfalso; first | omega | exact absurd trivial (by assumption)))
  refine c_M_in ?_
  by_cases hx : 0 ≤ x ∧ x ≤ 99
  rotate_left
  · rw [if_neg hx]
    rw [if_neg (fun q => hx q.2)] at K
    refine ⟨fun q1 => ⟨by first | decide | omega | contradiction | exact absurd trivial (by assumption), ?_⟩, fun q2 => ?_⟩
    try (any_goals (exfalso; first | omega | exact absurd trivial (by assumption)))
    exact K v Fz_rf hQ
  rw [if_pos hx]
  rw [if_pos ⟨ha, hx⟩] at K
  refine ⟨fun q1 => ⟨by first | decide | omega | contradiction | exact absurd trivial (by assumption), ?_⟩, fun q2 => ?_⟩
  try (any_goals (exfalso; first | omega | exact absurd trivial (by assumption)))
  refine m_pa hQ.1 (fun v1 g1 => ?_)
  exact th_17 hQ ha K 73 0 (by omega) g1
end
