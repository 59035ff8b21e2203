/-! ALL MADE: final fields hold what the tables say -/
theorem zFnt_l {c : Nat} : (zFnt.getD c []).length ≤ 64 := by
  by_cases h : c < 12
  · have hf : ∀ c : Fin 12, (zFnt.getD c.val []).length ≤ 64 := by decide +kernel
    exact hf ⟨c, h⟩
  · have hl : zFnt.length = 12 := by decide +kernel
    rw [List.getD_eq_getElem?_getD, List.getElem?_eq_none (by omega)]
    show (0 : Nat) ≤ 64
    omega
theorem zFn_far {c k : Nat} (h : 64 ≤ k) : (zFn c k).1 = 0 := by
  have := zFnt_l (c := c)
  unfold zFn
  rw [List.getD_eq_getElem?_getD, List.getElem?_eq_none (by omega)]
  rfl
theorem fin_S : ∀ i : Fin 115, ∀ k : Fin 64, (zFn (zCL ((i.val : Nat) : Int)) k.val).1 ≠ 0 → vS ((i.val : Nat) : Int) ((k.val : Nat) : Int) = zFK ((i.val : Nat) : Int) k.val := by decide +kernel
theorem zfv_S {i k : Nat} (hi : i < 115) : zfv 1 vS (i : Int) k = zfv 0 vS (i : Int) k := by
  have e0 : zfv 0 vS (i : Int) k = vS (i : Int) k := by
    unfold zfv
    exact if_neg (fun q => absurd q.1 (by decide))
  rw [e0]
  unfold zfv
  by_cases h : (zFn (zCL ((i : Nat) : Int)) k).1 = 0
  · rw [if_neg (fun q => q.2 h)]
  · rw [if_pos ⟨rfl, h⟩]
    by_cases hk : k < 64
    · exact (fin_S ⟨i, hi⟩ ⟨k, hk⟩ h).symm
    · exact absurd (zFn_far (by omega)) h
theorem zE_S {G : zG} {i : Nat} (hi : i < 115) : zE G 1 vS i = zE G 0 vS i := by
  unfold zE
  split
  · rfl
  split
  · rfl
  split
  · rfl
  split
  · rfl
  · congr 2
    refine List.map_congr_left (fun k _ => ?_)
    rw [zfv_S hi]
theorem zP_S {G : zG} {H : Heap} (h : zP G 0 vS 115 H) : zP G 1 vS 115 H := by
  obtain ⟨h1, h2, h3⟩ := h
  refine ⟨?_, h2, fun i hi k => ?_⟩
  · have e : zW G 1 vS 115 = zW G 0 vS 115 := List.map_congr_left (fun i hi => by rw [zE_S (List.mem_range.mp hi)])
    rw [e]
    exact h1
  · rw [zfv_S hi]
    exact h3 i hi k
