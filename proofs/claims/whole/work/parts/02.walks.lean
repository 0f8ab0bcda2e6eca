/-! each loop against its pure fold -/
theorem bm_g8 : (8 : Int32) ≤ nI 8 := by decide +kernel
theorem bm_l8 : ∀ c, c < 8 → ¬ (8 : Int32) ≤ nI c := by decide +kernel
theorem bm_g64 : (64 : Int32) ≤ nI 64 := by decide +kernel
theorem bm_l64 : ∀ c, c < 64 → ¬ (64 : Int32) ≤ nI c := by decide +kernel
theorem bm_xst (m v : Int64) (r c : Nat) (hr : r < 8) (hc : c < 8) : v ||| ((((m.toUInt64 >>> (((8 * nI r) + nI c).toInt64.toUInt64 &&& Int64.toUInt64 63)).toInt64) &&& 1) <<< (((8 * nI c) + nI r).toInt64 &&& 63)) = bm_st m (8 * r + c) v := by
  unfold bm_st bm_sh
  rw [bm_to r hr c hc, bm_at r hr c hc]
/-- the component's inner loop: the cells of row r from column c on -/
theorem bm_xin (post : Int64 → SX → Prop) (J : Int64 → Int32 → Prop) (m : Int64) (r : Nat) (hr : r < 8) : ∀ (e c : Nat) (v : Int64), c + e = 8 → J (bm_go m e (8 * r + c) v) (nI (r + 1)) → wX_transpose_13 post J (nI r) m (e + 1) v (nI c) := by
  intro e
  induction e with
  | zero =>
    intro c v h hJ
    obtain rfl : c = 8 := by omega
    have hJ : J v (nI (r + 1)) := hJ
    exact br_t bm_g8 (nm_r (nI_1 r) hJ)
  | succ e ih =>
    intro c v h hJ
    have hJ : J (bm_go m e (8 * r + (c + 1)) (bm_st m (8 * r + c) v)) (nI (r + 1)) := hJ
    have hi := ih (c + 1) _ (by omega) hJ
    exact br_f (bm_l8 c (by omega)) (nm_e (nm_r (bm_xst m v r c hr (by omega)) (nm_r (nI_1 c) hi)))
/-- the component's outer loop: f rows from row r on -/
theorem bm_xout (post : Int64 → SX → Prop) (m : Int64) : ∀ (f r : Nat) (v : Int64), r + f = 8 → post (bm_go m (8 * f) (8 * r) v) (bm_go m (8 * f) (8 * r) v) → wX_transpose_4 post m (f + 1) v (nI r) := by
  intro f
  induction f with
  | zero =>
    intro r v h hp
    obtain rfl : r = 8 := by omega
    have hp : post v v := hp
    exact br_t bm_g8 hp
  | succ f ih =>
    intro r v h hp
    have e : bm_go m (8 * (f + 1)) (8 * r) v = bm_go m (8 * f) (8 * (r + 1)) (bm_go m 8 (8 * r) v) := by
      rw [show 8 * (f + 1) = 8 + 8 * f by omega, show 8 * (r + 1) = 8 * r + 8 by omega, bm_ga]
    rw [e] at hp
    exact br_f (bm_l8 r (by omega)) ⟨8 + 1, bm_xin post _ m r (by omega) 8 0 v rfl (ih (r + 1) _ (by omega) hp)⟩
/-- the reference's loop: d cells from cell i on -/
theorem bm_yout (post : Int64 → SY → Prop) (m : Int64) : ∀ (d i : Nat) (v : Int64), i + d = 64 → post (bm_go m d i v) (bm_go m d i v) → wY_transpose_4 post m (d + 1) v (nI i) := by
  intro d
  induction d with
  | zero =>
    intro i v h hp
    obtain rfl : i = 64 := by omega
    have hp : post v v := hp
    exact br_t bm_g64 hp
  | succ d ih =>
    intro i v h hp
    rw [bm_gs] at hp
    have hi := ih (i + 1) _ (by omega) hp
    by_cases z : bm_sh m (nI i) &&& 1 = 0
    · have e : bm_st m i v = v := bm_s0 v _ z
      rw [e] at hi
      exact br_f (bm_l64 i (by omega)) (br_t z (nm_r (nI_1 i) hi))
    · have e : bm_st m i v = v ||| ((1 : Int64) <<< (((nI i &&& 7) * 8 + (nI i >>> ((3 : Int32) &&& 31))).toInt64 &&& 63)) := bm_s1 v _ z
      rw [e] at hi
      exact br_f (bm_l64 i (by omega)) (br_f z (nm_e (nm_r (nI_1 i) hi)))
/-- both sides' loop over the rows: d rows from row r on -/
theorem bm_xfl (post : Int64 → SX → Prop) (m : Int64) : ∀ (d r : Nat) (v : Int64), r + d = 8 → post (bm_fl m d r v) (bm_fl m d r v) → wX_flipV_4 post m (d + 1) v (nI r) := by
  intro d
  induction d with
  | zero =>
    intro r v h hp
    obtain rfl : r = 8 := by omega
    have hp : post v v := hp
    exact br_t bm_g8 hp
  | succ d ih =>
    intro r v h hp
    have hp : post (bm_fl m d (r + 1) (bm_sv m r v)) (bm_fl m d (r + 1) (bm_sv m r v)) := hp
    have hi := ih (r + 1) _ (by omega) hp
    exact br_f (bm_l8 r (by omega)) (nm_e (nm_e (nm_r (nI_1 r) hi)))
theorem bm_yfl (post : Int64 → SY → Prop) (m : Int64) : ∀ (d r : Nat) (v : Int64), r + d = 8 → post (bm_fl m d r v) (bm_fl m d r v) → wY_flipV_4 post m (d + 1) v (nI r) := by
  intro d
  induction d with
  | zero =>
    intro r v h hp
    obtain rfl : r = 8 := by omega
    have hp : post v v := hp
    exact br_t bm_g8 hp
  | succ d ih =>
    intro r v h hp
    have hp : post (bm_fl m d (r + 1) (bm_sv m r v)) (bm_fl m d (r + 1) (bm_sv m r v)) := hp
    have hi := ih (r + 1) _ (by omega) hp
    exact br_f (bm_l8 r (by omega)) (nm_e (nm_r (nI_1 r) hi))
theorem bm_h7 (x : Int32) : ¬ (8 : Int32) ≤ x ↔ x ≤ 7 := by
  rw [Int32.le_iff_toInt_le, Int32.le_iff_toInt_le]
  have a : (8 : Int32).toInt = 8 := by decide
  have b : (7 : Int32).toInt = 7 := by decide
  omega
