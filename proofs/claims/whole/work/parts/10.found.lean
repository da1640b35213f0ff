/-! the abstract machine: numbers are whole numbers (an int stands for its rest by 2^32), things have places 0, 1, .. -/
abbrev zV : Type := Int ⊕ (Int ⊕ (Option Nat ⊕ Nat))
abbrev zI (z : Int) : zV := .inl z
abbrev zL (z : Int) : zV := .inr (.inl z)
abbrev zR (a : Option Nat) : zV := .inr (.inr (.inl a))
abbrev zT (k : Nat) : zV := .inr (.inr (.inr k))
abbrev zM : Type := (Nat → Int → Int) × (Nat → Int → Option Nat) × (Nat → Nat × Nat) × Nat
abbrev zS : Type := List (Option zV) × List zV × zM × Nat × Nat
abbrev zG : Type := Launch × (Nat → Nat) × (Nat → Nat) × va_G × (Nat → ClassId) × Nat × (Nat × (Nat → Int))
def zl (G : zG) : Launch := G.1
def zad (G : zG) : Nat → Nat := G.2.1
def zsa (G : zG) : Nat → Nat := G.2.2.1
def zD (G : zG) : va_G := G.2.2.2.1
def zcA (G : zG) : Nat → ClassId := G.2.2.2.2.1
def zs0 (G : zG) : Nat := G.2.2.2.2.2.1
def zscr (G : zG) : Nat × (Nat → Int) := G.2.2.2.2.2.2
def zA (G : zG) : Nat → Prop := fun q => zs0 G ≤ q
def cv (G : zG) : zV → Value
  | .inl z => .int (Int32.ofInt z)
  | .inr (.inl z) => .long (Int64.ofInt z)
  | .inr (.inr (.inl r)) => va_rf (r.map (zad G))
  | .inr (.inr (.inr k)) => .ref (zsa G k)
def zi (μ : zM) : Nat → Int → Int := μ.1
def zr (μ : zM) : Nat → Int → Option Nat := μ.2.1
def zh (μ : zM) : Nat → Nat × Nat := μ.2.2.1
def zn (μ : zM) : Nat := μ.2.2.2
def zup (μ : zM) (a : Nat) (i v : Int) : zM := (fun a' i' => if a' = a ∧ i' = i then v else μ.1 a' i', μ.2)
def zupr (μ : zM) (a : Nat) (i : Int) (v : Option Nat) : zM := (μ.1, fun a' i' => if a' = a ∧ i' = i then v else μ.2.1 a' i', μ.2.2)
/-- a new thing of a kind at the next place: all 0 and null -/
def znew (μ : zM) (q : Nat × Nat) : zM := (fun a i => if a = μ.2.2.2 then 0 else μ.1 a i, fun a i => if a = μ.2.2.2 then none else μ.2.1 a i, fun a => if a = μ.2.2.2 then q else μ.2.2.1 a, μ.2.2.2 + 1)
def zw (z : Int) : Int := (z + 2147483648) % 4294967296 - 2147483648
def zw64 (z : Int) : Int := (z + 9223372036854775808) % 18446744073709551616 - 9223372036854775808
theorem zw_id {z : Int} (h1 : -2147483648 ≤ z) (h2 : z < 2147483648) : zw z = z := by unfold zw; omega
theorem zw_lo (z : Int) : -2147483648 ≤ zw z := by unfold zw; omega
theorem zw_hi (z : Int) : zw z < 2147483648 := by unfold zw; omega
theorem zw64_id {z : Int} (h1 : -9223372036854775808 ≤ z) (h2 : z < 9223372036854775808) : zw64 z = z := by unfold zw64; omega
theorem z_bmod (z : Int) : z.bmod 4294967296 = zw z := by unfold zw; rw [Int.bmod_def]; split <;> omega
theorem z_bmod64 (z : Int) : z.bmod 18446744073709551616 = zw64 z := by unfold zw64; rw [Int.bmod_def]; split <;> omega
theorem z_toInt (z : Int) : (Int32.ofInt z).toInt = zw z := by rw [Int32.toInt_ofInt, ← z_bmod]
theorem z_toInt64 (z : Int) : (Int64.ofInt z).toInt = zw64 z := by rw [Int64.toInt_ofInt, ← z_bmod64]
theorem z_lt (x y : Int) : Int32.ofInt x < Int32.ofInt y ↔ zw x < zw y := by rw [Int32.lt_iff_toInt_lt, z_toInt, z_toInt]
theorem z_le (x y : Int) : Int32.ofInt x ≤ Int32.ofInt y ↔ zw x ≤ zw y := by rw [Int32.le_iff_toInt_le, z_toInt, z_toInt]
theorem z_eq (x y : Int) : Int32.ofInt x = Int32.ofInt y ↔ zw x = zw y := by rw [← Int32.toInt_inj, z_toInt, z_toInt]
theorem z_lt64 (x y : Int) : Int64.ofInt x < Int64.ofInt y ↔ zw64 x < zw64 y := by rw [Int64.lt_iff_toInt_lt, z_toInt64, z_toInt64]
theorem z_le64 (x y : Int) : Int64.ofInt x ≤ Int64.ofInt y ↔ zw64 x ≤ zw64 y := by rw [Int64.le_iff_toInt_le, z_toInt64, z_toInt64]
theorem z_eq64 (x y : Int) : Int64.ofInt x = Int64.ofInt y ↔ zw64 x = zw64 y := by rw [← Int64.toInt_inj, z_toInt64, z_toInt64]
theorem z_same {x y : Int} (h : zw x = zw y) : Int32.ofInt x = Int32.ofInt y := (z_eq x y).mpr h
theorem zw_zw (z : Int) : zw (zw z) = zw z := zw_id (zw_lo z) (zw_hi z)
theorem z_ofw (z : Int) : Int32.ofInt (zw z) = Int32.ofInt z := z_same (zw_zw z)
theorem z_in {z : Int} {n : Nat} (h : 0 ≤ zw z ∧ zw z < n) : vp_in (Int32.ofInt z) n := by
  rw [vp_in_iff, z_toInt]; exact h
theorem z_cl {z : Int} (h : 0 ≤ zw z) : ((Int32.ofInt z).toNatClampNeg : Int) = zw z := by
  show (((Int32.ofInt z).toInt.toNat : Nat) : Int) = zw z
  rw [z_toInt]; omega
/-- quotient and rest, cut towards 0 -/
def zdiv (x y : Int) : Int := (zw x).tdiv (zw y)
def zrem (x y : Int) : Int := (zw x).tmod (zw y)
theorem z_div (x y : Int) : Int32.ofInt x / Int32.ofInt y = Int32.ofInt (zdiv x y) := by
  rw [← Int32.toInt_inj, Int32.toInt_div, z_toInt, z_toInt, z_toInt]
  exact z_bmod _
theorem z_rem (x y : Int) : Int32.ofInt x - Int32.ofInt x / Int32.ofInt y * Int32.ofInt y = Int32.ofInt (zrem x y) := by
  rw [z_div, ← Int32.ofInt_mul, ← Int32.ofInt_sub]
  apply z_same
  have e : (zw x).tmod (zw y) = zw x - (zw x).tdiv (zw y) * zw y := by rw [Int.tmod_def, Int.mul_comm]
  unfold zrem zdiv
  rw [e]
  generalize (zw x).tdiv (zw y) = q
  have h1 : zw x = x - ((x + 2147483648) / 4294967296) * 4294967296 := by unfold zw; omega
  have h2 : zw y = y - ((y + 2147483648) / 4294967296) * 4294967296 := by unfold zw; omega
  generalize (x + 2147483648) / 4294967296 = a at h1
  generalize (y + 2147483648) / 4294967296 = b at h2
  rw [h1, h2]
  have e2 : x - a * 4294967296 - q * (y - b * 4294967296) = x - q * y + (q * b - a) * 4294967296 := by
    rw [Int.mul_sub, Int.sub_mul, ← Int.mul_assoc]; omega
  rw [e2]
  unfold zw
  generalize q * b - a = r
  omega
