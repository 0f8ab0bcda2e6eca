section
/-! one bit and one row of a long, read at a count; the walk over 64 cells and over 8 rows as pure folds -/
/-- a long's lowest bit: none or one -/
theorem bm_b01 (y : Int64) : y &&& 1 = 0 ∨ y &&& 1 = 1 := by
  have h : (y.toBitVec &&& 1#64) = BitVec.setWidth 64 (BitVec.ofBool (y.toBitVec.getLsbD 0)) := BitVec.and_one_eq_setWidth_ofBool_getLsbD
  cases hb : y.toBitVec.getLsbD 0
  · left
    apply Int64.toBitVec_inj.mp
    rw [Int64.toBitVec_and]
    show y.toBitVec &&& 1#64 = 0#64
    rw [h, hb]
    decide
  · right
    apply Int64.toBitVec_inj.mp
    rw [Int64.toBitVec_and]
    show y.toBitVec &&& 1#64 = 1#64
    rw [h, hb]
    decide
theorem bm_s0 {y : Int64} (v s : Int64) (h : y &&& 1 = 0) : v ||| ((y &&& 1) <<< s) = v := by
  rw [h, Int64.zero_shiftLeft, Int64.or_zero]
theorem bm_s1 {y : Int64} (v s : Int64) (h : ¬ y &&& 1 = 0) : v ||| ((y &&& 1) <<< s) = v ||| ((1 : Int64) <<< s) := by
  rcases bm_b01 y with z | z
  · exact absurd z h
  · rw [z]
/-- the place that the 64-step walk gives to cell i is the place that the 8 by 8 walk gives to cell (r, c) -/
theorem bm_to : ∀ r, r < 8 → ∀ c, c < 8 → (nI (8 * r + c) &&& 7) * 8 + (nI (8 * r + c) >>> ((3 : Int32) &&& 31)) = 8 * nI c + nI r := by decide +kernel
theorem bm_at : ∀ r, r < 8 → ∀ c, c < 8 → 8 * nI r + nI c = nI (8 * r + c) := by decide +kernel
/-- the cut to eight bits before the cast or behind it -/
theorem bm_cut (x : Int64) : (x &&& 255).toInt32 = x.toInt32 &&& 255 := by
  rw [Int64.toInt32_and]
  have h : (255 : Int64).toInt32 = 255 := by decide
  rw [h]
theorem bm_wide (b : Int32) : b.toInt64 &&& 255 = (b &&& 255).toInt64 := by
  rw [Int32.toInt64_and]
  have h : (255 : Int32).toInt64 = 255 := by decide
  rw [h]
/-- m's bits from place i on -/
def bm_sh (m : Int64) (i : Int32) : Int64 := (m.toUInt64 >>> (i.toInt64.toUInt64 &&& Int64.toUInt64 63)).toInt64
/-- cell i of m laid into v at its new place -/
def bm_st (m : Int64) (i : Nat) (v : Int64) : Int64 := v ||| ((bm_sh m (nI i) &&& 1) <<< (((nI i &&& 7) * 8 + (nI i >>> ((3 : Int32) &&& 31))).toInt64 &&& 63))
/-- d cells from i on -/
def bm_go (m : Int64) : Nat → Nat → Int64 → Int64
  | 0, _, v => v
  | d + 1, i, v => bm_go m d (i + 1) (bm_st m i v)
theorem bm_gs (m : Int64) (d i : Nat) (v : Int64) : bm_go m (d + 1) i v = bm_go m d (i + 1) (bm_st m i v) := rfl
theorem bm_ga (m : Int64) (b : Nat) : ∀ (a i : Nat) (v : Int64), bm_go m (a + b) i v = bm_go m b (i + a) (bm_go m a i v) := by
  intro a
  induction a with
  | zero => intro i v; rw [Nat.zero_add, Nat.add_zero]; rfl
  | succ a ih =>
    intro i v
    rw [show a + 1 + b = (a + b) + 1 by omega, bm_gs, bm_gs, ih, show i + 1 + a = i + (a + 1) by omega]
/-- row r of m laid into v at its new place -/
def bm_sv (m : Int64) (r : Nat) (v : Int64) : Int64 := v ||| ((bm_sh m (8 * nI r) &&& 255) <<< ((8 * (7 - nI r)).toInt64 &&& 63))
def bm_fl (m : Int64) : Nat → Nat → Int64 → Int64
  | 0, _, v => v
  | d + 1, r, v => bm_fl m d (r + 1) (bm_sv m r v)
end
section
/-! each loop against its pure fold -/
theorem bm_g8 : (8 : Int32) ≤ nI 8 := by decide +kernel
theorem bm_l8 : ∀ c, c < 8 → ¬ (8 : Int32) ≤ nI c := by decide +kernel
theorem bm_g64 : (64 : Int32) ≤ nI 64 := by decide +kernel
theorem bm_l64 : ∀ c, c < 64 → ¬ (64 : Int32) ≤ nI c := by decide +kernel
theorem bm_xst (m v : Int64) (r c : Nat) (hr : r < 8) (hc : c < 8) : v ||| ((((m.toUInt64 >>> (((8 * nI r) + nI c).toInt64.toUInt64 &&& Int64.toUInt64 63)).toInt64) &&& 1) <<< (((8 * nI c) + nI r).toInt64 &&& 63)) = bm_st m (8 * r + c) v := by
  unfold bm_st bm_sh
  rw [bm_to r hr c hc, bm_at r hr c hc]
/-- the component's inner loop: the cells of row r from column c on -/
theorem bm_xin (post : Int64 → SX → Prop) (J : Int64 → Int32 → Prop) (m : Int64) (r : Nat) (hr : r < 8) : ∀ (e c : Nat) (v : Int64), c + e = 8 → J (bm_go m e (8 * r + c) v) (nI (r + 1)) → wX_transpose_13 post J (nI r) m (e + 1) v (nI c) := by
  intro e
  induction e with
  | zero =>
    intro c v h hJ
    obtain rfl : c = 8 := by omega
    have hJ : J v (nI (r + 1)) := hJ
    exact br_t bm_g8 (nm_r (nI_1 r) hJ)
  | succ e ih =>
    intro c v h hJ
    have hJ : J (bm_go m e (8 * r + (c + 1)) (bm_st m (8 * r + c) v)) (nI (r + 1)) := hJ
    have hi := ih (c + 1) _ (by omega) hJ
    exact br_f (bm_l8 c (by omega)) (nm_e (nm_r (bm_xst m v r c hr (by omega)) (nm_r (nI_1 c) hi)))
/-- the component's outer loop: f rows from row r on -/
theorem bm_xout (post : Int64 → SX → Prop) (m : Int64) : ∀ (f r : Nat) (v : Int64), r + f = 8 → post (bm_go m (8 * f) (8 * r) v) (bm_go m (8 * f) (8 * r) v) → wX_transpose_4 post m (f + 1) v (nI r) := by
  intro f
  induction f with
  | zero =>
    intro r v h hp
    obtain rfl : r = 8 := by omega
    have hp : post v v := hp
    exact br_t bm_g8 hp
  | succ f ih =>
    intro r v h hp
    have e : bm_go m (8 * (f + 1)) (8 * r) v = bm_go m (8 * f) (8 * (r + 1)) (bm_go m 8 (8 * r) v) := by
      rw [show 8 * (f + 1) = 8 + 8 * f by omega, show 8 * (r + 1) = 8 * r + 8 by omega, bm_ga]
    rw [e] at hp
    exact br_f (bm_l8 r (by omega)) ⟨8 + 1, bm_xin post _ m r (by omega) 8 0 v rfl (ih (r + 1) _ (by omega) hp)⟩
/-- the reference's loop: d cells from cell i on -/
theorem bm_yout (post : Int64 → SY → Prop) (m : Int64) : ∀ (d i : Nat) (v : Int64), i + d = 64 → post (bm_go m d i v) (bm_go m d i v) → wY_transpose_4 post m (d + 1) v (nI i) := by
  intro d
  induction d with
  | zero =>
    intro i v h hp
    obtain rfl : i = 64 := by omega
    have hp : post v v := hp
    exact br_t bm_g64 hp
  | succ d ih =>
    intro i v h hp
    rw [bm_gs] at hp
    have hi := ih (i + 1) _ (by omega) hp
    by_cases z : bm_sh m (nI i) &&& 1 = 0
    · have e : bm_st m i v = v := bm_s0 v _ z
      rw [e] at hi
      exact br_f (bm_l64 i (by omega)) (br_t z (nm_r (nI_1 i) hi))
    · have e : bm_st m i v = v ||| ((1 : Int64) <<< (((nI i &&& 7) * 8 + (nI i >>> ((3 : Int32) &&& 31))).toInt64 &&& 63)) := bm_s1 v _ z
      rw [e] at hi
      exact br_f (bm_l64 i (by omega)) (br_f z (nm_e (nm_r (nI_1 i) hi)))
/-- both sides' loop over the rows: d rows from row r on -/
theorem bm_xfl (post : Int64 → SX → Prop) (m : Int64) : ∀ (d r : Nat) (v : Int64), r + d = 8 → post (bm_fl m d r v) (bm_fl m d r v) → wX_flipV_4 post m (d + 1) v (nI r) := by
  intro d
  induction d with
  | zero =>
    intro r v h hp
    obtain rfl : r = 8 := by omega
    have hp : post v v := hp
    exact br_t bm_g8 hp
  | succ d ih =>
    intro r v h hp
    have hp : post (bm_fl m d (r + 1) (bm_sv m r v)) (bm_fl m d (r + 1) (bm_sv m r v)) := hp
    have hi := ih (r + 1) _ (by omega) hp
    exact br_f (bm_l8 r (by omega)) (nm_e (nm_e (nm_r (nI_1 r) hi)))
theorem bm_yfl (post : Int64 → SY → Prop) (m : Int64) : ∀ (d r : Nat) (v : Int64), r + d = 8 → post (bm_fl m d r v) (bm_fl m d r v) → wY_flipV_4 post m (d + 1) v (nI r) := by
  intro d
  induction d with
  | zero =>
    intro r v h hp
    obtain rfl : r = 8 := by omega
    have hp : post v v := hp
    exact br_t bm_g8 hp
  | succ d ih =>
    intro r v h hp
    have hp : post (bm_fl m d (r + 1) (bm_sv m r v)) (bm_fl m d (r + 1) (bm_sv m r v)) := hp
    have hi := ih (r + 1) _ (by omega) hp
    exact br_f (bm_l8 r (by omega)) (nm_e (nm_r (nI_1 r) hi))
theorem bm_h7 (x : Int32) : ¬ (8 : Int32) ≤ x ↔ x ≤ 7 := by
  rw [Int32.le_iff_toInt_le, Int32.le_iff_toInt_le]
  have a : (8 : Int32).toInt = 8 := by decide
  have b : (7 : Int32).toInt = 7 := by decide
  omega
end
section
/-- both sides keep the same 64 cells in one long -/
def i_Rel (k : Nat) (u : SX) (v : SY) : Prop := u = v
theorem i_up {k : Nat} {u : SX} {v : SY} (h : i_Rel k u v) : i_Rel (k + 3) u v := h
theorem i_vc0 : wpX_init (fun u => wpY_init (fun v => i_Rel 0 u v)) := rfl
theorem i_vc_setRow {k : Nat} {u : SX} {v : SY} (I : i_Rel k u v) (hk : k + 3 ≤ 1536) (v1 : Int32) (v2 : Int32) : wpX_setRow (fun r u' => wpY_setRow (fun r' v' => r' = r ∧ i_Rel (k + 3) u' v') v v1 v2) u v1 v2 := by
  cases I
  unfold wpX_setRow wpX_isRow wpX_readRow wpY_setRow
  dsimp only
  by_cases h0 : v1 < 0
  · exact br_t h0 (br_t rfl (br_t h0 ⟨rfl, rfl⟩))
  · by_cases h8 : (8 : Int32) ≤ v1
    · have h7 : ¬ v1 ≤ 7 := fun z => (bm_h7 v1).mpr z h8
      exact br_f h0 (br_t h8 (br_t rfl (br_f h0 (br_f h7 ⟨rfl, rfl⟩))))
    · have h7 : v1 ≤ 7 := (bm_h7 v1).mp h8
      refine br_f h0 (br_f h8 (br_f (by decide) ?_))
      intro s es f ef
      subst es ef
      refine br_f h0 (br_t h7 ?_)
      intro o eo g eg
      subst eo eg
      refine ⟨(bm_cut _).symm, ?_⟩
      unfold i_Rel
      rw [bm_wide]
theorem i_vc_transpose {k : Nat} {u : SX} {v : SY} (I : i_Rel k u v) (hk : k + 3 ≤ 1536) : wpX_transpose (fun r u' => wpY_transpose (fun r' v' => r' = r ∧ i_Rel (k + 3) u' v') v) u := by
  cases I
  exact ⟨8 + 1, bm_xout _ u 8 0 0 rfl ⟨64 + 1, bm_yout _ u 64 0 0 rfl ⟨rfl, rfl⟩⟩⟩
theorem i_vc_flipV {k : Nat} {u : SX} {v : SY} (I : i_Rel k u v) (hk : k + 3 ≤ 1536) : wpX_flipV (fun r u' => wpY_flipV (fun r' v' => r' = r ∧ i_Rel (k + 3) u' v') v) u := by
  cases I
  exact ⟨8 + 1, bm_xfl _ u 8 0 0 rfl ⟨8 + 1, bm_yfl _ u 8 0 0 rfl ⟨rfl, rfl⟩⟩⟩
theorem i_vc_row {k : Nat} {u : SX} {v : SY} (I : i_Rel k u v) (hk : k + 3 ≤ 1536) (v1 : Int32) : wpX_row (fun r => wpY_row (fun r' => r' = r ∧ i_Rel (k + 3) u v) v v1) u v1 := by
  cases I
  unfold wpX_row wpX_isRow wpX_readRow wpY_row
  dsimp only
  by_cases h0 : v1 < 0
  · exact br_t h0 (br_t rfl (br_t h0 ⟨rfl, rfl⟩))
  · by_cases h8 : (8 : Int32) ≤ v1
    · have h7 : ¬ v1 ≤ 7 := fun z => (bm_h7 v1).mpr z h8
      exact br_f h0 (br_t h8 (br_t rfl (br_f h0 (br_f h7 ⟨rfl, rfl⟩))))
    · have h7 : v1 ≤ 7 := (bm_h7 v1).mp h8
      exact br_f h0 (br_f h8 (br_f (by decide) (br_f h0 (br_t h7 ⟨(bm_cut _).symm, rfl⟩))))
end
