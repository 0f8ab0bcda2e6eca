/-! one bit and one row of a long, read at a count; the walk over 64 cells and over 8 rows as pure folds -/
/-- a long's lowest bit: none or one -/
theorem bm_b01 (y : Int64) : y &&& 1 = 0 ∨ y &&& 1 = 1 := by
  have h : (y.toBitVec &&& 1#64) = BitVec.setWidth 64 (BitVec.ofBool (y.toBitVec.getLsbD 0)) := BitVec.and_one_eq_setWidth_ofBool_getLsbD
  cases hb : y.toBitVec.getLsbD 0
  · left
    apply Int64.toBitVec_inj.mp
    rw [Int64.toBitVec_and]
    show y.toBitVec &&& 1#64 = 0#64
    rw [h, hb]
    decide
  · right
    apply Int64.toBitVec_inj.mp
    rw [Int64.toBitVec_and]
    show y.toBitVec &&& 1#64 = 1#64
    rw [h, hb]
    decide
theorem bm_s0 {y : Int64} (v s : Int64) (h : y &&& 1 = 0) : v ||| ((y &&& 1) <<< s) = v := by
  rw [h, Int64.zero_shiftLeft, Int64.or_zero]
theorem bm_s1 {y : Int64} (v s : Int64) (h : ¬ y &&& 1 = 0) : v ||| ((y &&& 1) <<< s) = v ||| ((1 : Int64) <<< s) := by
  rcases bm_b01 y with z | z
  · exact absurd z h
  · rw [z]
/-- the place that the 64-step walk gives to cell i is the place that the 8 by 8 walk gives to cell (r, c) -/
theorem bm_to : ∀ r, r < 8 → ∀ c, c < 8 → (nI (8 * r + c) &&& 7) * 8 + (nI (8 * r + c) >>> ((3 : Int32) &&& 31)) = 8 * nI c + nI r := by decide +kernel
theorem bm_at : ∀ r, r < 8 → ∀ c, c < 8 → 8 * nI r + nI c = nI (8 * r + c) := by decide +kernel
/-- the cut to eight bits before the cast or behind it -/
theorem bm_cut (x : Int64) : (x &&& 255).toInt32 = x.toInt32 &&& 255 := by
  rw [Int64.toInt32_and]
  have h : (255 : Int64).toInt32 = 255 := by decide
  rw [h]
theorem bm_wide (b : Int32) : b.toInt64 &&& 255 = (b &&& 255).toInt64 := by
  rw [Int32.toInt64_and]
  have h : (255 : Int32).toInt64 = 255 := by decide
  rw [h]
/-- m's bits from place i on -/
def bm_sh (m : Int64) (i : Int32) : Int64 := (m.toUInt64 >>> (i.toInt64.toUInt64 &&& Int64.toUInt64 63)).toInt64
/-- cell i of m laid into v at its new place -/
def bm_st (m : Int64) (i : Nat) (v : Int64) : Int64 := v ||| ((bm_sh m (nI i) &&& 1) <<< (((nI i &&& 7) * 8 + (nI i >>> ((3 : Int32) &&& 31))).toInt64 &&& 63))
/-- d cells from i on -/
def bm_go (m : Int64) : Nat → Nat → Int64 → Int64
  | 0, _, v => v
  | d + 1, i, v => bm_go m d (i + 1) (bm_st m i v)
theorem bm_gs (m : Int64) (d i : Nat) (v : Int64) : bm_go m (d + 1) i v = bm_go m d (i + 1) (bm_st m i v) := rfl
theorem bm_ga (m : Int64) (b : Nat) : ∀ (a i : Nat) (v : Int64), bm_go m (a + b) i v = bm_go m b (i + a) (bm_go m a i v) := by
  intro a
  induction a with
  | zero => intro i v; rw [Nat.zero_add, Nat.add_zero]; rfl
  | succ a ih =>
    intro i v
    rw [show a + 1 + b = (a + b) + 1 by omega, bm_gs, bm_gs, ih, show i + 1 + a = i + (a + 1) by omega]
/-- row r of m laid into v at its new place -/
def bm_sv (m : Int64) (r : Nat) (v : Int64) : Int64 := v ||| ((bm_sh m (8 * nI r) &&& 255) <<< ((8 * (7 - nI r)).toInt64 &&& 63))
def bm_fl (m : Int64) : Nat → Nat → Int64 → Int64
  | 0, _, v => v
  | d + 1, r, v => bm_fl m d (r + 1) (bm_sv m r v)
