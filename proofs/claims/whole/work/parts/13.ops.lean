def ushr (x y : Int32) : Int32 := (x.toUInt32 >>> (y.toUInt32 &&& Int32.toUInt32 31)).toInt32
def irem (x y : Int32) : Int32 := x - x / y * y
def lrem (x y : Int64) : Int64 := x - x / y * y
def lshl (x : Int64) (y : Int32) : Int64 := x <<< (y.toInt64 &&& 63)
def lshr (x : Int64) (y : Int32) : Int64 := x >>> (y.toInt64 &&& 63)
def lushr (x : Int64) (y : Int32) : Int64 := (x.toUInt64 >>> (y.toInt64.toUInt64 &&& Int64.toUInt64 63)).toInt64
def tb_ARGUMENTS (j : Nat) : Int32 := (st_tab "ARGUMENTS").getD j 0
def tb_BOUNDS_AT (j : Nat) : Int32 := (st_tab "BOUNDS_AT").getD j 0
def tb_CHANNEL_BITS (j : Nat) : Int32 := (st_tab "CHANNEL_BITS").getD j 0
def tb_CHANNEL_SHIFT (j : Nat) : Int32 := (st_tab "CHANNEL_SHIFT").getD j 0
def tb_FILE_AT (j : Nat) : Int32 := (st_tab "FILE_AT").getD j 0
def tb_KEPT_AT (j : Nat) : Int32 := (st_tab "KEPT_AT").getD j 0
def tb_KEPT_BY_FIRST (j : Nat) : Int32 := (st_tab "KEPT_BY_FIRST").getD j 0
def tb_LEAST (j : Nat) : Int32 := (st_tab "LEAST").getD j 0
def tb_MOST (j : Nat) : Int32 := (st_tab "MOST").getD j 0
def tb_SOURCES (j : Nat) : Int32 := (st_tab "SOURCES").getD j 0
def tb_TEXEL_BITS (j : Nat) : Int32 := (st_tab "TEXEL_BITS").getD j 0
theorem rcC_Prg {τ : ClassId × ClassId × ClassId} {σ : Sg} {ad : Nat → Nat} {pid : Nat} (hp : pid < 3) : (wdC τ σ ad)[67 + pid]? = some (ad (67 + pid), .inr (11, [.ref (ad (21 + 1 * pid)), .int (σ.1 (22 + 3 * pid)), .int (σ.1 (23 + 3 * pid)), .int (σ.1 (24 + 3 * pid))])) := by
  rcases (show pid = 0 ∨ pid = 1 ∨ pid = 2 by omega) with rfl | rfl | rfl <;> rfl
theorem rcM_Shm {τ : ClassId × ClassId × ClassId} {σ : Sg} {ad : Nat → Nat} {pid : Nat} (hp : pid < 2) : (wdM τ σ ad)[65 + pid]? = some (ad (65 + pid), .inr (15, [.int (σ.1 (40 + 6 * pid)), .ref (ad 0), .ref (ad 61), .ref (ad (14 + 10 * pid)), .ref (ad (15 + 10 * pid)), .int (σ.1 (41 + 6 * pid)), .int (σ.1 (42 + 6 * pid)), .int (σ.1 (43 + 6 * pid)), .int (σ.1 (44 + 6 * pid)), .ref (ad (16 + 10 * pid)), .ref (ad (17 + 10 * pid)), .ref (ad (18 + 10 * pid)), .ref (ad (19 + 10 * pid)), .ref (ad (20 + 10 * pid)), .ref (ad (21 + 10 * pid)), .int (σ.1 (45 + 6 * pid)), .ref (ad (22 + 10 * pid)), .ref (ad (23 + 10 * pid))])) := by
  rcases (show pid = 0 ∨ pid = 1 by omega) with rfl | rfl <;> rfl
