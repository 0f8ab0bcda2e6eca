/-- both sides keep the same 64 cells in one long -/
def i_Rel (k : Nat) (u : SX) (v : SY) : Prop := u = v
theorem i_up {k : Nat} {u : SX} {v : SY} (h : i_Rel k u v) : i_Rel (k + 3) u v := h
theorem i_vc0 : wpX_init (fun u => wpY_init (fun v => i_Rel 0 u v)) := rfl
theorem i_vc_setRow {k : Nat} {u : SX} {v : SY} (I : i_Rel k u v) (hk : k + 3 ≤ 1536) (v1 : Int32) (v2 : Int32) : wpX_setRow (fun r u' => wpY_setRow (fun r' v' => r' = r ∧ i_Rel (k + 3) u' v') v v1 v2) u v1 v2 := by
  cases I
  unfold wpX_setRow wpX_isRow wpX_readRow wpY_setRow
  dsimp only
  by_cases h0 : v1 < 0
  · exact br_t h0 (br_t rfl (br_t h0 ⟨rfl, rfl⟩))
  · by_cases h8 : (8 : Int32) ≤ v1
    · have h7 : ¬ v1 ≤ 7 := fun z => (bm_h7 v1).mpr z h8
      exact br_f h0 (br_t h8 (br_t rfl (br_f h0 (br_f h7 ⟨rfl, rfl⟩))))
    · have h7 : v1 ≤ 7 := (bm_h7 v1).mp h8
      refine br_f h0 (br_f h8 (br_f (by decide) ?_))
      intro s es f ef
      subst es ef
      refine br_f h0 (br_t h7 ?_)
      intro o eo g eg
      subst eo eg
      refine ⟨(bm_cut _).symm, ?_⟩
      unfold i_Rel
      rw [bm_wide]
theorem i_vc_transpose {k : Nat} {u : SX} {v : SY} (I : i_Rel k u v) (hk : k + 3 ≤ 1536) : wpX_transpose (fun r u' => wpY_transpose (fun r' v' => r' = r ∧ i_Rel (k + 3) u' v') v) u := by
  cases I
  exact ⟨8 + 1, bm_xout _ u 8 0 0 rfl ⟨64 + 1, bm_yout _ u 64 0 0 rfl ⟨rfl, rfl⟩⟩⟩
theorem i_vc_flipV {k : Nat} {u : SX} {v : SY} (I : i_Rel k u v) (hk : k + 3 ≤ 1536) : wpX_flipV (fun r u' => wpY_flipV (fun r' v' => r' = r ∧ i_Rel (k + 3) u' v') v) u := by
  cases I
  exact ⟨8 + 1, bm_xfl _ u 8 0 0 rfl ⟨8 + 1, bm_yfl _ u 8 0 0 rfl ⟨rfl, rfl⟩⟩⟩
theorem i_vc_row {k : Nat} {u : SX} {v : SY} (I : i_Rel k u v) (hk : k + 3 ≤ 1536) (v1 : Int32) : wpX_row (fun r => wpY_row (fun r' => r' = r ∧ i_Rel (k + 3) u v) v v1) u v1 := by
  cases I
  unfold wpX_row wpX_isRow wpX_readRow wpY_row
  dsimp only
  by_cases h0 : v1 < 0
  · exact br_t h0 (br_t rfl (br_t h0 ⟨rfl, rfl⟩))
  · by_cases h8 : (8 : Int32) ≤ v1
    · have h7 : ¬ v1 ≤ 7 := fun z => (bm_h7 v1).mpr z h8
      exact br_f h0 (br_t h8 (br_t rfl (br_f h0 (br_f h7 ⟨rfl, rfl⟩))))
    · have h7 : v1 ≤ 7 := (bm_h7 v1).mp h8
      exact br_f h0 (br_f h8 (br_f (by decide) (br_f h0 (br_t h7 ⟨(bm_cut _).symm, rfl⟩))))
