/-! worlds: the list of cells, a read, a write, a new one -/
theorem zW_len {G : zG} {md : Nat} {v : zH} {n : Nat} : (zW G md v n).length = n := by simp [zW]
theorem zW_get {G : zG} {md : Nat} {v : zH} {n i : Nat} (h : i < n) : (zW G md v n)[i]? = some (zgB G + i, zE G md v i) := by
  simp [zW, List.getElem?_map, List.getElem?_range h]
theorem zW_get' {G : zG} {md : Nat} {v : zH} {n k : Nat} {q : Nat × va_E} (h : (zW G md v n)[k]? = some q) : k < n ∧ q = (zgB G + k, zE G md v k) := by
  have hk : k < n := by
    have := (List.getElem?_eq_some_iff.mp h).1
    rwa [zW_len] at this
  rw [zW_get hk] at h
  exact ⟨hk, (Option.some.inj h).symm⟩
theorem zW_D {G : zG} {md : Nat} {v : zH} {n : Nat} : va_D (zA G) (zW G md v n) := by
  refine ⟨fun i j p q hi hj hpq => ?_, fun k q hk => ?_⟩
  · obtain ⟨-, rfl⟩ := zW_get' hi
    obtain ⟨-, rfl⟩ := zW_get' hj
    have : zgB G + i = zgB G + j := hpq
    omega
  · obtain ⟨-, rfl⟩ := zW_get' hk
    exact Nat.le_add_right _ _
theorem zW_set {G : zG} {md : Nat} {v v' : zH} {n i : Nat} {e : va_E} (hi : i < n) (he : e = zE G md v' i) (ho : ∀ j : Nat, j < n → j ≠ i → zE G md v' j = zE G md v j) : (zW G md v n).set i (zgB G + i, e) = zW G md v' n := by
  apply List.ext_getElem?
  intro k
  by_cases hk : k < n
  · by_cases hki : k = i
    · subst hki
      rw [List.getElem?_set_self (by rw [zW_len]; exact hk), zW_get hk, he]
    · rw [List.getElem?_set_ne (Ne.symm hki), zW_get hk, zW_get hk, ho k hk hki]
  · rw [List.getElem?_eq_none (by rw [List.length_set, zW_len]; omega), List.getElem?_eq_none (by rw [zW_len]; omega)]
theorem zE_congr {G : zG} {md : Nat} {v v' : zH} {i : Nat} (h : ∀ j : Int, v' i j = v i j) : zE G md v' i = zE G md v i := by
  have e : v' (i : Int) = v (i : Int) := funext h
  unfold zE zfv
  simp only [e]
theorem zupd_o {v : zH} {a j x : Int} {a' j' : Int} (h : ¬ a' = a) : zupd v a j x a' j' = v a' j' := by simp [zupd, h]
theorem zupd_s {v : zH} {a j x : Int} : zupd v a j x a j = x := by simp [zupd]
theorem zupd_j {v : zH} {a j x : Int} {j' : Int} (h : ¬ j' = j) : zupd v a j x a j' = v a j' := by simp [zupd, h]
theorem zE_ne {G : zG} {md : Nat} {v : zH} {a j x : Int} {i : Nat} (h : ¬ (i : Int) = a) : zE G md (zupd v a j x) i = zE G md v i := zE_congr fun _ => zupd_o h
theorem zE_20 {G : zG} {md : Nat} {v : zH} {i : Nat} (h : zCL i = 20) : zE G md v i = .inl (zgT G 0, (zLN i).toNat, .inl (fun j => Int32.ofInt (v i j))) := by simp [zE, h]
theorem zE_21 {G : zG} {md : Nat} {v : zH} {i : Nat} (h : zCL i = 21) : zE G md v i = .inl (zgT G 1, (zLN i).toNat, .inl (fun j => Int32.ofInt (v i j))) := by simp [zE, h]
theorem zE_22 {G : zG} {md : Nat} {v : zH} {i : Nat} (h : zCL i = 22) : zE G md v i = .inl (zgT G 2, (zLN i).toNat, .inr (.inl (fun j => Int64.ofInt (v i j)))) := by simp [zE, h]
theorem zE_23 {G : zG} {md : Nat} {v : zH} {i : Nat} (h : zCL i = 23) : zE G md v i = .inl (zgT G 3, (zLN i).toNat, .inr (.inr (.inr (.inr (fun j => if v i j = -1000 then none else some (zad G (v i j))))))) := by simp [zE, h]
theorem zE_o {G : zG} {md : Nat} {v : zH} {i : Nat} {c : Nat} (h : zCL i = c) (hc : c < 12) : zE G md v i = .inr (c, (List.range (zNF c)).map (fun k => zc G (zFT c k, zfv md v i k))) := by
  unfold zE
  rw [h, if_neg (by omega), if_neg (by omega), if_neg (by omega), if_neg (by omega)]
theorem zupd_fun20 {v : zH} {i : Nat} {j x : Int} (h0 : 0 ≤ j) : (fun k : Nat => Int32.ofInt (zupd v i j x i k)) = upd (fun k : Nat => Int32.ofInt (v i k)) j.toNat (Int32.ofInt x) := by
  funext k
  unfold upd zupd
  by_cases hk : k = j.toNat
  · subst hk
    have : ((j.toNat : Nat) : Int) = j := by omega
    simp [this]
  · have : ¬ ((k : Nat) : Int) = j := by omega
    simp [this, hk]
theorem zupd_fun22 {v : zH} {i : Nat} {j x : Int} (h0 : 0 ≤ j) : (fun k : Nat => Int64.ofInt (zupd v i j x i k)) = vp_updL (fun k : Nat => Int64.ofInt (v i k)) j.toNat (Int64.ofInt x) := by
  funext k
  unfold vp_updL zupd
  by_cases hk : k = j.toNat
  · subst hk
    have : ((j.toNat : Nat) : Int) = j := by omega
    simp [this]
  · have : ¬ ((k : Nat) : Int) = j := by omega
    simp [this, hk]
theorem zupd_fun23 {G : zG} {v : zH} {i : Nat} {j x : Int} (h0 : 0 ≤ j) (hx : ¬ x = -1000) : (fun k : Nat => if zupd v i j x i k = -1000 then none else some (zad G (zupd v i j x i k))) = va_up (fun k : Nat => if v i k = -1000 then none else some (zad G (v i k))) j.toNat (some (zad G x)) := by
  funext k
  unfold va_up zupd
  by_cases hk : k = j.toNat
  · subst hk
    have : ((j.toNat : Nat) : Int) = j := by omega
    simp [this, hx]
  · have : ¬ ((k : Nat) : Int) = j := by omega
    simp [this, hk]
theorem zfv_o {md : Nat} {v : zH} {a j x : Int} {i : Int} {k : Nat} (h : ¬ i = a ∨ ¬ (k : Int) = j) : zfv md (zupd v a j x) i k = zfv md v i k := by
  unfold zfv
  split
  · rfl
  · unfold zupd
    rw [if_neg]
    rcases h with h | h
    · exact fun q => h q.1
    · exact fun q => h q.2
theorem zfv_s {md : Nat} {v : zH} {i x : Int} {k : Nat} (h : ¬ (md = 1 ∧ (zFn (zCL i) k).1 ≠ 0)) : zfv md (zupd v i k x) i k = x := by
  unfold zfv
  rw [if_neg h]
  exact zupd_s
theorem zfields_set {G : zG} {md : Nat} {v : zH} {i : Nat} {c k : Nat} {x : Int} (hc : zCL i = c) (hk : k < zNF c) (h : ¬ (md = 1 ∧ (zFn c k).1 ≠ 0)) : ((List.range (zNF c)).map (fun k => zc G (zFT c k, zfv md v i k))).set k (zc G (zFT c k, x)) = (List.range (zNF c)).map (fun k' => zc G (zFT c k', zfv md (zupd v i k x) i k')) := by
  apply List.ext_getElem?
  intro j
  by_cases hj : j < zNF c
  · by_cases hjk : j = k
    · subst hjk
      rw [List.getElem?_set_self (by simpa using hj), List.getElem?_map, List.getElem?_range hj]
      simp only [Option.map_some]
      rw [zfv_s (by rw [hc]; exact h)]
    · rw [List.getElem?_set_ne (Ne.symm hjk), List.getElem?_map, List.getElem?_map, List.getElem?_range hj]
      simp only [Option.map_some]
      rw [zfv_o (Or.inr (by omega))]
  · rw [List.getElem?_eq_none (by simpa using hj), List.getElem?_eq_none (by simpa using hj)]
theorem zOk_upd {md : Nat} {v : zH} {n : Nat} {i : Nat} {j : Nat} {x : Int} (h : zOk md v n) (hx : zRn n (zTg i j) x) : zOk md (zupd v i j x) n := by
  intro i' hi' k
  by_cases hh : (i' : Int) = i ∧ (k : Int) = j
  · have e1 : i' = i := by omega
    have e2 : k = j := by omega
    subst e1; subst e2
    by_cases hf : md = 1 ∧ (zFn (zCL (i' : Int)) k).1 ≠ 0
    · have := h i' hi' k
      unfold zfv at this ⊢
      rw [if_pos hf] at this ⊢
      exact this
    · rw [zfv_s hf]
      exact hx
  · rw [zfv_o (by by_cases q : (i' : Int) = i
                  · exact Or.inr fun z => hh ⟨q, z⟩
                  · exact Or.inl q)]
    exact h i' hi' k
theorem zP_lt {G : zG} {md : Nat} {v : zH} {n : Nat} {H : Heap} (h : va_P (zgD G) zcl (zW G md v n) H) (hn : 0 < n) : zgB G + n ≤ H.size := by
  have := (h (n - 1) _ (zW_get (show n - 1 < n by omega))).lt
  simp only at this
  omega
theorem zCL_le {a : Int} {c : Nat} (h : zCL a = c) (hc : c < 25) : 0 ≤ a := by
  unfold zCL at h
  split at h
  · assumption
  · split at h
    · omega
    · split at h
      · omega
      · split at h
        · omega
        · split at h <;> omega
theorem zLN_le (a : Int) : 0 ≤ zLN a := by
  unfold zLN
  split
  · omega
  · split
    · omega
    · split
      · omega
      · omega
theorem zLN_small_tab : ∀ q ∈ zTab, q.2 ≤ 10000 := by decide +kernel
theorem zLN_small {a : Int} (h : 0 ≤ a) : zLN a ≤ 10000 := by
  unfold zLN
  rw [if_pos h]
  rw [List.getD_eq_getElem?_getD]
  cases hq : zTab[a.toNat]? with
  | none => simp
  | some q =>
    have := zLN_small_tab q (List.mem_of_getElem? hq)
    simp only [Option.getD_some]
    omega
theorem zRn_mono {n n' t : Nat} {x : Int} (h : zRn n t x) (hn : n ≤ n') : zRn n' t x := by
  rcases h with h | h
  · exact Or.inl h
  · refine Or.inr ?_
    unfold zRg at h ⊢
    split <;> simp_all
    omega
theorem zRg_mono {n n' t : Nat} {x : Int} (h : zRg n t x) (hn : n ≤ n') : zRg n' t x := by
  unfold zRg at h ⊢
  split <;> simp_all
  omega
theorem zSZ_step (n : Nat) : zSZ n ≤ zSZ (n + 1) := by
  unfold zSZ
  by_cases h : n < zTab.length
  · rw [List.take_succ_eq_append_getElem h, List.map_append, List.sum_append]
    omega
  · rw [List.take_of_length_le (by omega), List.take_of_length_le (by omega)]
    exact Nat.le_refl _
theorem zSZ_mono {a b : Nat} (h : a ≤ b) : zSZ a ≤ zSZ b := by
  induction b with
  | zero => rw [show a = 0 by omega]; exact Nat.le_refl _
  | succ b ih =>
    by_cases e : a = b + 1
    · rw [e]; exact Nat.le_refl _
    · exact Nat.le_trans (ih (by omega)) (zSZ_step b)
theorem zcr_get {ci : Nat} (h : ci < 12) : zcl[ci]? = some (zcr ci) := by
  unfold zcr
  rw [List.getD_eq_getElem?_getD, List.getElem?_eq_getElem (show ci < zcl.length from h)]
  rfl
theorem zNF_ok : ∀ ci, ci < 12 → zNF ci = (zcr ci).2.2 := by decide +kernel
theorem zat_mem {i : Nat} {w : Jvm.Cond} (h : zat i = some w) : w ∈ lw_tbl := by
  have hm := List.mem_of_getElem? h
  unfold zchunk at hm
  show w ∈ k2_sels lw_privs ++ tables_1
  have e : tables_1 = tables_1_1 ++ (tables_1_2 ++ (tables_1_3 ++ (tables_1_4 ++ (tables_1_5 ++ (tables_1_6 ++ tables_1_7))))) := rfl
  rw [e]
  split at hm
  · exact List.mem_append_left _ hm
  · exact List.mem_append_right _ (List.mem_append_left _ hm)
  · exact List.mem_append_right _ (List.mem_append_right _ (List.mem_append_left _ hm))
  · exact List.mem_append_right _ (List.mem_append_right _ (List.mem_append_right _ (List.mem_append_left _ hm)))
  · exact List.mem_append_right _ (List.mem_append_right _ (List.mem_append_right _ (List.mem_append_right _ (List.mem_append_left _ hm))))
  · exact List.mem_append_right _ (List.mem_append_right _ (List.mem_append_right _ (List.mem_append_right _ (List.mem_append_right _ (List.mem_append_left _ hm)))))
  · exact List.mem_append_right _ (List.mem_append_right _ (List.mem_append_right _ (List.mem_append_right _ (List.mem_append_right _ (List.mem_append_right _ (List.mem_append_left _ hm))))))
  · exact List.mem_append_right _ (List.mem_append_right _ (List.mem_append_right _ (List.mem_append_right _ (List.mem_append_right _ (List.mem_append_right _ (List.mem_append_right _ hm))))))
/-- a word of the tables, by its place -/
theorem zwd_ok {i : Nat} {w : Jvm.Cond} (h : zwd i w = true) : w ∈ zws := by
  unfold zwd at h
  rw [Bool.and_eq_true, decide_eq_true_eq] at h
  exact List.mem_filter.mpr ⟨zat_mem h.1, h.2⟩
theorem zws_good : GoodIn zws zws := fun w hw => ⟨hw, good_of_word (List.mem_filter.mp hw).2⟩
theorem zWs_good {h : zHdr} {i : Nat} (hc : zcode i h = true) : GoodIn zws (zWs h) := by
  intro w hw
  rcases List.mem_cons.mp hw with rfl | hw
  · exact zws_good _ (zwd_ok hc)
  · exact zws_good _ hw
