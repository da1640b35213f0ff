/-! the judgement, and a row for each plain instruction -/
section
variable {G : zG} {ph : Bool} {p : Program} {e : Env} {R : Room} {s : State} {m : MethodId} {args : Array Value} {below : List Frame} {meth : Method} {c : Code} {Q : State → Prop} {cc : ByteArray} {own : String} {Ts : List Cond} {pc : Nat} {L L' : List (Option zV)} {st : List zV} {μ : zM} {cn un : Nat}
def zJd (G : zG) (ph : Bool) (p : Program) (e : Env) (R : Room) (s : State) (m : MethodId) (args : Array Value) (below : List Frame) (meth : Method) (c : Code) (Q : State → Prop) : Nat → zS → Prop := fun pc σ =>
  ∀ (H : Heap) (locs : List Loc) (ls : Array Slot), zls G c.maxLocals ls σ.1 → zH G ph σ.2.2.1 H → va_S (zA G) s.heap H locs → W p (zl G) e R s m args below meth c H locs σ.2.2.2.1 σ.2.2.2.2 Q (F0 m pc ls (σ.2.1.map (cv G)))
def zAm (G : zG) (p : Program) (s : State) (m : MethodId) (args : Array Value) (c : Code) (cc : ByteArray) (own : String) (Ts : List Cond) : Prop :=
  p.tables.exec = Jvm.exec ∧ c.code = cc ∧ s.vm.findClass own = some m.cls ∧ (∀ w ∈ Ts, w.before args s = true) ∧ va_K (zD G) vwCl (zTys G) s ∧ zStat G s s.heap ∧ zNs G s
def zb (x : Int) : Int := (x + 128) % 256 - 128
def zsh (x : Int) : Int := (x + 32768) % 65536 - 32768
def zand (x y : Int) : Int := (Int32.ofInt x &&& Int32.ofInt y).toInt
def zor (x y : Int) : Int := (Int32.ofInt x ||| Int32.ofInt y).toInt
def zshl (x y : Int) : Int := (Int32.ofInt x <<< (Int32.ofInt y &&& 31)).toInt
def zshr (x y : Int) : Int := (Int32.ofInt x >>> (Int32.ofInt y &&& 31)).toInt
def zushr (x y : Int) : Int := (((Int32.ofInt x).toUInt32 >>> ((Int32.ofInt y).toUInt32 &&& Int32.toUInt32 31)).toInt32).toInt
def zdiv64 (x y : Int) : Int := (zw64 x).tdiv (zw64 y)
def zrem64 (x y : Int) : Int := (zw64 x).tmod (zw64 y)
def zlcmp (x y : Int) : Int := if zw64 y < zw64 x then 1 else if zw64 x = zw64 y then 0 else -1
theorem z_ofti (x : Int32) : Int32.ofInt x.toInt = x := Int32.ofInt_toInt x
theorem z_i2l (x : Int) : (Int32.ofInt x).toInt64 = Int64.ofInt (zw x) := by
  rw [← Int64.toInt_inj, Int32.toInt_toInt64, z_toInt, z_toInt64, zw64_id] <;> unfold zw <;> omega
theorem z_l2i (x : Int) : (Int64.ofInt x).toInt32 = Int32.ofInt x := by
  rw [← Int32.toInt_inj, Int64.toInt_toInt32, z_toInt64, z_toInt]
  show (zw64 x).bmod 4294967296 = zw x
  rw [z_bmod]
  unfold zw64 zw
  omega
theorem z_i2b (x : Int) : (Int32.ofInt x).toInt8.toInt32 = Int32.ofInt (zb x) := by
  rw [← Int32.toInt_inj, lg_i2b_toInt, z_toInt, z_toInt, Int.bmod_def]
  unfold zw zb
  split <;> omega
theorem z_i2s (x : Int) : (Int32.ofInt x).toInt16.toInt32 = Int32.ofInt (zsh x) := by
  rw [← Int32.toInt_inj, lg_i2s_toInt, z_toInt, z_toInt, Int.bmod_def]
  unfold zw zsh
  split <;> omega
theorem z_i2c (x : Int) : ((Int32.ofInt x).toUInt32 % 65536).toInt32 = Int32.ofInt (x % 65536) := by
  rw [lg_i2c_nf, ← Int32.toInt_inj, lg_i2c_toInt, z_toInt, z_toInt]
  unfold zw
  omega
theorem z_div64 (x y : Int) : Int64.ofInt x / Int64.ofInt y = Int64.ofInt (zdiv64 x y) := by
  rw [← Int64.toInt_inj, Int64.toInt_div, z_toInt64, z_toInt64, z_toInt64]
  exact z_bmod64 _
theorem z_same64 {x y : Int} (h : zw64 x = zw64 y) : Int64.ofInt x = Int64.ofInt y := (z_eq64 x y).mpr h
theorem z_rem64 (x y : Int) : Int64.ofInt x - Int64.ofInt x / Int64.ofInt y * Int64.ofInt y = Int64.ofInt (zrem64 x y) := by
  rw [z_div64, ← Int64.ofInt_mul, ← Int64.ofInt_sub]
  apply z_same64
  have e : (zw64 x).tmod (zw64 y) = zw64 x - (zw64 x).tdiv (zw64 y) * zw64 y := by rw [Int.tmod_def, Int.mul_comm]
  unfold zrem64 zdiv64
  rw [e]
  generalize (zw64 x).tdiv (zw64 y) = q
  have h1 : zw64 x = x - ((x + 9223372036854775808) / 18446744073709551616) * 18446744073709551616 := by unfold zw64; omega
  have h2 : zw64 y = y - ((y + 9223372036854775808) / 18446744073709551616) * 18446744073709551616 := by unfold zw64; omega
  generalize (x + 9223372036854775808) / 18446744073709551616 = a at h1
  generalize (y + 9223372036854775808) / 18446744073709551616 = b at h2
  rw [h1, h2]
  have e2 : x - a * 18446744073709551616 - q * (y - b * 18446744073709551616) = x - q * y + (q * b - a) * 18446744073709551616 := by
    rw [Int.mul_sub, Int.sub_mul, ← Int.mul_assoc]; omega
  rw [e2]
  unfold zw64
  generalize q * b - a = r
  omega
theorem z_ne0 {y : Int} (h : zw y ≠ 0) : ¬ Int32.ofInt y = 0 := fun q => h ((z_eq y 0).mp q)
theorem z_ne064 {y : Int} (h : zw64 y ≠ 0) : ¬ Int64.ofInt y = 0 := fun q => h ((z_eq64 y 0).mp q)
theorem z_lcmp (x y : Int) : lg_cmp (Int64.ofInt x) (Int64.ofInt y) = Int32.ofInt (zlcmp x y) := by
  unfold lg_cmp zlcmp
  simp only [GT.gt, z_lt64, z_eq64]
  split
  · rfl
  · split <;> rfl
theorem s_iconst (A : zAm G p s m args c cc own Ts) {n : Int} (d : decode cc pc = .ok (.iconst n, 1))  (k : zJd G ph p e R s m args below meth c Q (pc + 1) (L, zI n :: st, μ, cn, un)) : zJd G ph p e R s m args below meth c Q pc (L, st, μ, cn, un) := by
  intro H locs ls hl hh hS
  exact lv_iconst A.1 A.2.1 d rfl (k H locs ls hl hh hS)
theorem s_bipush (A : zAm G p s m args c cc own Ts) {n : Int} (d : decode cc pc = .ok (.bipush n, 2)) (h : (Int8.ofInt n).toInt32 = Int32.ofInt n) (k : zJd G ph p e R s m args below meth c Q (pc + 2) (L, zI n :: st, μ, cn, un)) : zJd G ph p e R s m args below meth c Q pc (L, st, μ, cn, un) := by
  intro H locs ls hl hh hS
  exact lv_bipush A.1 A.2.1 d h (k H locs ls hl hh hS)
theorem s_sipush (A : zAm G p s m args c cc own Ts) {n : Int} (d : decode cc pc = .ok (.sipush n, 3)) (h : (Int16.ofInt n).toInt32 = Int32.ofInt n) (k : zJd G ph p e R s m args below meth c Q (pc + 3) (L, zI n :: st, μ, cn, un)) : zJd G ph p e R s m args below meth c Q pc (L, st, μ, cn, un) := by
  intro H locs ls hl hh hS
  exact lv_sipush A.1 A.2.1 d h (k H locs ls hl hh hS)
theorem s_lconst (A : zAm G p s m args c cc own Ts) {n : Fin 2} {z : Int} (d : decode cc pc = .ok (.lconst n, 1)) (h : Int64.ofNat (n : Nat) = Int64.ofInt z) (k : zJd G ph p e R s m args below meth c Q (pc + 1) (L, zL z :: st, μ, cn, un)) : zJd G ph p e R s m args below meth c Q pc (L, st, μ, cn, un) := by
  intro H locs ls hl hh hS
  exact lv_lconst A.1 A.2.1 d h (k H locs ls hl hh hS)
theorem s_ldc (A : zAm G p s m args c cc own Ts) {index : Nat} {v : Int32} {z : Int} (d : decode cc pc = .ok (.ldc index, 2)) (hw : Cond.constant own index v ∈ Ts) (h : v = Int32.ofInt z) (k : zJd G ph p e R s m args below meth c Q (pc + 2) (L, zI z :: st, μ, cn, un)) : zJd G ph p e R s m args below meth c Q pc (L, st, μ, cn, un) := by
  intro H locs ls hl hh hS
  subst h; exact lv_ldc A.1 A.2.1 A.2.2.1 (A.2.2.2.1 _ hw) d (k H locs ls hl hh hS)
theorem s_ldcw (A : zAm G p s m args c cc own Ts) {index : Nat} {v : Int32} {z : Int} (d : decode cc pc = .ok (.ldc_w index, 3)) (hw : Cond.constant own index v ∈ Ts) (h : v = Int32.ofInt z) (k : zJd G ph p e R s m args below meth c Q (pc + 3) (L, zI z :: st, μ, cn, un)) : zJd G ph p e R s m args below meth c Q pc (L, st, μ, cn, un) := by
  intro H locs ls hl hh hS
  subst h; exact lv_ldcw A.1 A.2.1 A.2.2.1 (A.2.2.2.1 _ hw) d (k H locs ls hl hh hS)
theorem s_ldc2 (A : zAm G p s m args c cc own Ts) {index : Nat} {v : Int64} {z : Int} (d : decode cc pc = .ok (.ldc2_w index, 3)) (hw : Cond.constantLong own index v ∈ Ts) (h : v = Int64.ofInt z) (k : zJd G ph p e R s m args below meth c Q (pc + 3) (L, zL z :: st, μ, cn, un)) : zJd G ph p e R s m args below meth c Q pc (L, st, μ, cn, un) := by
  intro H locs ls hl hh hS
  subst h; exact lv_ldc2 A.1 A.2.1 A.2.2.1 (A.2.2.2.1 _ hw) d (k H locs ls hl hh hS)
theorem s_iload_n (A : zAm G p s m args c cc own Ts) {q : Fin 4} {x : Int} (d : decode cc pc = .ok (.iload_n q, 1)) (h : L[(q : Nat)]? = some (some (zI x))) (k : zJd G ph p e R s m args below meth c Q (pc + 1) (L, zI x :: st, μ, cn, un)) : zJd G ph p e R s m args below meth c Q pc (L, st, μ, cn, un) := by
  intro H locs ls hl hh hS
  exact lv_iload_n A.1 A.2.1 d rfl (hl.2.2.2 _ _ h) (k H locs ls hl hh hS)
theorem s_iload (A : zAm G p s m args c cc own Ts) {i : Nat} {x : Int} (d : decode cc pc = .ok (.iload i, 2)) (h : L[i]? = some (some (zI x))) (k : zJd G ph p e R s m args below meth c Q (pc + 2) (L, zI x :: st, μ, cn, un)) : zJd G ph p e R s m args below meth c Q pc (L, st, μ, cn, un) := by
  intro H locs ls hl hh hS
  exact lv_iload A.1 A.2.1 d (hl.2.2.2 _ _ h) (k H locs ls hl hh hS)
theorem s_lload_n (A : zAm G p s m args c cc own Ts) {q : Fin 4} {x : Int} (d : decode cc pc = .ok (.lload_n q, 1)) (h : L[(q : Nat)]? = some (some (zL x))) (k : zJd G ph p e R s m args below meth c Q (pc + 1) (L, zL x :: st, μ, cn, un)) : zJd G ph p e R s m args below meth c Q pc (L, st, μ, cn, un) := by
  intro H locs ls hl hh hS
  exact lv_lload_n A.1 A.2.1 d rfl (hl.2.2.2 _ _ h) (k H locs ls hl hh hS)
theorem s_lload (A : zAm G p s m args c cc own Ts) {i : Nat} {x : Int} (d : decode cc pc = .ok (.lload i, 2)) (h : L[i]? = some (some (zL x))) (k : zJd G ph p e R s m args below meth c Q (pc + 2) (L, zL x :: st, μ, cn, un)) : zJd G ph p e R s m args below meth c Q pc (L, st, μ, cn, un) := by
  intro H locs ls hl hh hS
  exact lv_lload A.1 A.2.1 d (hl.2.2.2 _ _ h) (k H locs ls hl hh hS)
theorem s_aload_n (A : zAm G p s m args c cc own Ts) {q : Fin 4} {r : Option Nat} (d : decode cc pc = .ok (.aload_n q, 1)) (h : L[(q : Nat)]? = some (some (zR r))) (k : zJd G ph p e R s m args below meth c Q (pc + 1) (L, zR r :: st, μ, cn, un)) : zJd G ph p e R s m args below meth c Q pc (L, st, μ, cn, un) := by
  intro H locs ls hl hh hS
  cases r with
  | none => exact lv_aload_nN A.1 A.2.1 d rfl (hl.2.2.2 _ _ h) (k H locs ls hl hh hS)
  | some a => exact lv_aload_n A.1 A.2.1 d rfl (hl.2.2.2 _ _ h) (k H locs ls hl hh hS)
theorem s_aload (A : zAm G p s m args c cc own Ts) {i : Nat} {r : Option Nat} (d : decode cc pc = .ok (.aload i, 2)) (h : L[i]? = some (some (zR r))) (k : zJd G ph p e R s m args below meth c Q (pc + 2) (L, zR r :: st, μ, cn, un)) : zJd G ph p e R s m args below meth c Q pc (L, st, μ, cn, un) := by
  intro H locs ls hl hh hS
  cases r with
  | none => exact lv_aloadN A.1 A.2.1 d (hl.2.2.2 _ _ h) (k H locs ls hl hh hS)
  | some a => exact lv_aload A.1 A.2.1 d (hl.2.2.2 _ _ h) (k H locs ls hl hh hS)
theorem s_aload_nT (A : zAm G p s m args c cc own Ts) {q : Fin 4} {r : Nat} (d : decode cc pc = .ok (.aload_n q, 1)) (h : L[(q : Nat)]? = some (some (zT r))) (k : zJd G ph p e R s m args below meth c Q (pc + 1) (L, zT r :: st, μ, cn, un)) : zJd G ph p e R s m args below meth c Q pc (L, st, μ, cn, un) := by
  intro H locs ls hl hh hS
  exact lv_aload_n A.1 A.2.1 d rfl (hl.2.2.2 _ _ h) (k H locs ls hl hh hS)
theorem s_aloadT (A : zAm G p s m args c cc own Ts) {i : Nat} {r : Nat} (d : decode cc pc = .ok (.aload i, 2)) (h : L[i]? = some (some (zT r))) (k : zJd G ph p e R s m args below meth c Q (pc + 2) (L, zT r :: st, μ, cn, un)) : zJd G ph p e R s m args below meth c Q pc (L, st, μ, cn, un) := by
  intro H locs ls hl hh hS
  exact lv_aload A.1 A.2.1 d (hl.2.2.2 _ _ h) (k H locs ls hl hh hS)
theorem s_istore_n (A : zAm G p s m args c cc own Ts) {q : Fin 4} {x : Int} (d : decode cc pc = .ok (.istore_n q, 1)) (hi : (q : Nat) < L.length) (h : zset1 L (q : Nat) (zI x) = L') (k : zJd G ph p e R s m args below meth c Q (pc + 1) (L', st, μ, cn, un)) : zJd G ph p e R s m args below meth c Q pc (L, zI x :: st, μ, cn, un) := by
  intro H locs ls hl hh hS
  have hn : (q : Nat) < c.maxLocals := by rw [← hl.2.1]; exact hi
  exact lv_istore_n A.1 A.2.1 d rfl hl.has hn rfl (fun ls2 hl2 => k H locs ls2 (by rw [← h]; exact zls.set1 hl hl2) hh hS)
theorem s_istore (A : zAm G p s m args c cc own Ts) {i : Nat} {x : Int} (d : decode cc pc = .ok (.istore i, 2)) (hi : i < L.length) (h : zset1 L i (zI x) = L') (k : zJd G ph p e R s m args below meth c Q (pc + 2) (L', st, μ, cn, un)) : zJd G ph p e R s m args below meth c Q pc (L, zI x :: st, μ, cn, un) := by
  intro H locs ls hl hh hS
  have hn : i < c.maxLocals := by rw [← hl.2.1]; exact hi
  exact lv_istore A.1 A.2.1 d hl.has hn rfl (fun ls2 hl2 => k H locs ls2 (by rw [← h]; exact zls.set1 hl hl2) hh hS)
theorem s_lstore_n (A : zAm G p s m args c cc own Ts) {q : Fin 4} {x : Int} (d : decode cc pc = .ok (.lstore_n q, 1)) (hi : (q : Nat) + 1 < L.length) (h : zset2 L (q : Nat) (zL x) = L') (k : zJd G ph p e R s m args below meth c Q (pc + 1) (L', st, μ, cn, un)) : zJd G ph p e R s m args below meth c Q pc (L, zL x :: st, μ, cn, un) := by
  intro H locs ls hl hh hS
  have hn : (q : Nat) + 1 < c.maxLocals := by rw [← hl.2.1]; exact hi
  exact lv_lstore_n A.1 A.2.1 d rfl hl.has hn rfl (fun ls2 hl2 => k H locs ls2 (by rw [← h]; exact zls.set2 hl hl2) hh hS)
theorem s_lstore (A : zAm G p s m args c cc own Ts) {i : Nat} {x : Int} (d : decode cc pc = .ok (.lstore i, 2)) (hi : i + 1 < L.length) (h : zset2 L i (zL x) = L') (k : zJd G ph p e R s m args below meth c Q (pc + 2) (L', st, μ, cn, un)) : zJd G ph p e R s m args below meth c Q pc (L, zL x :: st, μ, cn, un) := by
  intro H locs ls hl hh hS
  have hn : i + 1 < c.maxLocals := by rw [← hl.2.1]; exact hi
  exact lv_lstore A.1 A.2.1 d hl.has hn rfl (fun ls2 hl2 => k H locs ls2 (by rw [← h]; exact zls.set2 hl hl2) hh hS)
theorem s_astore_n (A : zAm G p s m args c cc own Ts) {q : Fin 4} {r : Option Nat} (d : decode cc pc = .ok (.astore_n q, 1)) (hi : (q : Nat) < L.length) (h : zset1 L (q : Nat) (zR r) = L') (k : zJd G ph p e R s m args below meth c Q (pc + 1) (L', st, μ, cn, un)) : zJd G ph p e R s m args below meth c Q pc (L, zR r :: st, μ, cn, un) := by
  intro H locs ls hl hh hS
  have hn : (q : Nat) < c.maxLocals := by rw [← hl.2.1]; exact hi
  cases r with
  | none => exact lv_astore_nN A.1 A.2.1 d rfl hl.has hn rfl (fun ls2 hl2 => k H locs ls2 (by rw [← h]; exact zls.set1 hl hl2) hh hS)
  | some a => exact lv_astore_n A.1 A.2.1 d rfl hl.has hn rfl (fun ls2 hl2 => k H locs ls2 (by rw [← h]; exact zls.set1 hl hl2) hh hS)
theorem s_astore_nT (A : zAm G p s m args c cc own Ts) {q : Fin 4} {r : Nat} (d : decode cc pc = .ok (.astore_n q, 1)) (hi : (q : Nat) < L.length) (h : zset1 L (q : Nat) (zT r) = L') (k : zJd G ph p e R s m args below meth c Q (pc + 1) (L', st, μ, cn, un)) : zJd G ph p e R s m args below meth c Q pc (L, zT r :: st, μ, cn, un) := by
  intro H locs ls hl hh hS
  have hn : (q : Nat) < c.maxLocals := by rw [← hl.2.1]; exact hi
  exact lv_astore_n A.1 A.2.1 d rfl hl.has hn rfl (fun ls2 hl2 => k H locs ls2 (by rw [← h]; exact zls.set1 hl hl2) hh hS)
theorem s_astore (A : zAm G p s m args c cc own Ts) {i : Nat} {r : Option Nat} (d : decode cc pc = .ok (.astore i, 2)) (hi : i < L.length) (h : zset1 L i (zR r) = L') (k : zJd G ph p e R s m args below meth c Q (pc + 2) (L', st, μ, cn, un)) : zJd G ph p e R s m args below meth c Q pc (L, zR r :: st, μ, cn, un) := by
  intro H locs ls hl hh hS
  have hn : i < c.maxLocals := by rw [← hl.2.1]; exact hi
  cases r with
  | none => exact lv_astoreN A.1 A.2.1 d hl.has hn rfl (fun ls2 hl2 => k H locs ls2 (by rw [← h]; exact zls.set1 hl hl2) hh hS)
  | some a => exact lv_astore A.1 A.2.1 d hl.has hn rfl (fun ls2 hl2 => k H locs ls2 (by rw [← h]; exact zls.set1 hl hl2) hh hS)
theorem s_astoreT (A : zAm G p s m args c cc own Ts) {i : Nat} {r : Nat} (d : decode cc pc = .ok (.astore i, 2)) (hi : i < L.length) (h : zset1 L i (zT r) = L') (k : zJd G ph p e R s m args below meth c Q (pc + 2) (L', st, μ, cn, un)) : zJd G ph p e R s m args below meth c Q pc (L, zT r :: st, μ, cn, un) := by
  intro H locs ls hl hh hS
  have hn : i < c.maxLocals := by rw [← hl.2.1]; exact hi
  exact lv_astore A.1 A.2.1 d hl.has hn rfl (fun ls2 hl2 => k H locs ls2 (by rw [← h]; exact zls.set1 hl hl2) hh hS)
theorem s_iinc (A : zAm G p s m args c cc own Ts) {i : Nat} {n x : Int} (d : decode cc pc = .ok (.iinc i n, 3)) (h : L[i]? = some (some (zI x))) (h2 : zset1 L i (zI (x + n)) = L') (k : zJd G ph p e R s m args below meth c Q (pc + 3) (L', st, μ, cn, un)) : zJd G ph p e R s m args below meth c Q pc (L, st, μ, cn, un) := by
  intro H locs ls hl hh hS
  have hn : i < c.maxLocals := hl.lt h
  have hm : (i, cv G (zI x)) ∈ zas G L := zas_mem.mpr ⟨_, h, rfl⟩
  obtain ⟨kq, hk⟩ := List.getElem?_of_mem hm
  exact lv_iinc A.1 A.2.1 (v := Int32.ofInt (x + n)) d hl.has hk (Int32.ofInt_add x n).symm hn rfl (fun ls2 hl2 => k H locs ls2 (by rw [← h2]; exact zls.set1 (v := zI (x + n)) hl hl2) hh hS)
theorem s_iadd (A : zAm G p s m args c cc own Ts) {x y : Int} (d : decode cc pc = .ok (.iadd, 1))  (k : zJd G ph p e R s m args below meth c Q (pc + 1) (L, zI (x + y) :: st, μ, cn, un)) : zJd G ph p e R s m args below meth c Q pc (L, zI y :: zI x :: st, μ, cn, un) := by
  intro H locs ls hl hh hS
  refine lv_iadd A.1 A.2.1 d ?_
  have q := k H locs ls hl hh hS
  rw [show Int32.ofInt x + Int32.ofInt y = Int32.ofInt (x + y) from (Int32.ofInt_add x y).symm]
  exact q
theorem s_isub (A : zAm G p s m args c cc own Ts) {x y : Int} (d : decode cc pc = .ok (.isub, 1))  (k : zJd G ph p e R s m args below meth c Q (pc + 1) (L, zI (x - y) :: st, μ, cn, un)) : zJd G ph p e R s m args below meth c Q pc (L, zI y :: zI x :: st, μ, cn, un) := by
  intro H locs ls hl hh hS
  refine lv_isub A.1 A.2.1 d ?_
  have q := k H locs ls hl hh hS
  rw [show Int32.ofInt x - Int32.ofInt y = Int32.ofInt (x - y) from (Int32.ofInt_sub x y).symm]
  exact q
theorem s_imul (A : zAm G p s m args c cc own Ts) {x y : Int} (d : decode cc pc = .ok (.imul, 1))  (k : zJd G ph p e R s m args below meth c Q (pc + 1) (L, zI (x * y) :: st, μ, cn, un)) : zJd G ph p e R s m args below meth c Q pc (L, zI y :: zI x :: st, μ, cn, un) := by
  intro H locs ls hl hh hS
  refine lv_imul A.1 A.2.1 d ?_
  have q := k H locs ls hl hh hS
  rw [show Int32.ofInt x * Int32.ofInt y = Int32.ofInt (x * y) from (Int32.ofInt_mul x y).symm]
  exact q
theorem s_idiv (A : zAm G p s m args c cc own Ts) {x y : Int} (d : decode cc pc = .ok (.idiv, 1)) (h : zw y ≠ 0) (k : zJd G ph p e R s m args below meth c Q (pc + 1) (L, zI (zdiv x y) :: st, μ, cn, un)) : zJd G ph p e R s m args below meth c Q pc (L, zI y :: zI x :: st, μ, cn, un) := by
  intro H locs ls hl hh hS
  refine lv_idiv A.1 A.2.1 d (z_ne0 h) ?_
  have q := k H locs ls hl hh hS
  rw [show Int32.ofInt x / Int32.ofInt y = Int32.ofInt (zdiv x y) from z_div x y]
  exact q
theorem s_irem (A : zAm G p s m args c cc own Ts) {x y : Int} (d : decode cc pc = .ok (.irem, 1)) (h : zw y ≠ 0) (k : zJd G ph p e R s m args below meth c Q (pc + 1) (L, zI (zrem x y) :: st, μ, cn, un)) : zJd G ph p e R s m args below meth c Q pc (L, zI y :: zI x :: st, μ, cn, un) := by
  intro H locs ls hl hh hS
  refine lv_irem A.1 A.2.1 d (z_ne0 h) ?_
  have q := k H locs ls hl hh hS
  rw [show Int32.ofInt x - Int32.ofInt x / Int32.ofInt y * Int32.ofInt y = Int32.ofInt (zrem x y) from z_rem x y]
  exact q
theorem s_ladd (A : zAm G p s m args c cc own Ts) {x y : Int} (d : decode cc pc = .ok (.ladd, 1))  (k : zJd G ph p e R s m args below meth c Q (pc + 1) (L, zL (x + y) :: st, μ, cn, un)) : zJd G ph p e R s m args below meth c Q pc (L, zL y :: zL x :: st, μ, cn, un) := by
  intro H locs ls hl hh hS
  refine lv_ladd A.1 A.2.1 d ?_
  have q := k H locs ls hl hh hS
  rw [show Int64.ofInt x + Int64.ofInt y = Int64.ofInt (x + y) from (Int64.ofInt_add x y).symm]
  exact q
theorem s_lsub (A : zAm G p s m args c cc own Ts) {x y : Int} (d : decode cc pc = .ok (.lsub, 1))  (k : zJd G ph p e R s m args below meth c Q (pc + 1) (L, zL (x - y) :: st, μ, cn, un)) : zJd G ph p e R s m args below meth c Q pc (L, zL y :: zL x :: st, μ, cn, un) := by
  intro H locs ls hl hh hS
  refine lv_lsub A.1 A.2.1 d ?_
  have q := k H locs ls hl hh hS
  rw [show Int64.ofInt x - Int64.ofInt y = Int64.ofInt (x - y) from (Int64.ofInt_sub x y).symm]
  exact q
theorem s_lmul (A : zAm G p s m args c cc own Ts) {x y : Int} (d : decode cc pc = .ok (.lmul, 1))  (k : zJd G ph p e R s m args below meth c Q (pc + 1) (L, zL (x * y) :: st, μ, cn, un)) : zJd G ph p e R s m args below meth c Q pc (L, zL y :: zL x :: st, μ, cn, un) := by
  intro H locs ls hl hh hS
  refine lv_lmul A.1 A.2.1 d ?_
  have q := k H locs ls hl hh hS
  rw [show Int64.ofInt x * Int64.ofInt y = Int64.ofInt (x * y) from (Int64.ofInt_mul x y).symm]
  exact q
theorem s_ldiv (A : zAm G p s m args c cc own Ts) {x y : Int} (d : decode cc pc = .ok (.ldiv, 1)) (h : zw64 y ≠ 0) (k : zJd G ph p e R s m args below meth c Q (pc + 1) (L, zL (zdiv64 x y) :: st, μ, cn, un)) : zJd G ph p e R s m args below meth c Q pc (L, zL y :: zL x :: st, μ, cn, un) := by
  intro H locs ls hl hh hS
  refine lv_ldiv A.1 A.2.1 d (z_ne064 h) ?_
  have q := k H locs ls hl hh hS
  rw [show Int64.ofInt x / Int64.ofInt y = Int64.ofInt (zdiv64 x y) from z_div64 x y]
  exact q
theorem s_lrem (A : zAm G p s m args c cc own Ts) {x y : Int} (d : decode cc pc = .ok (.lrem, 1)) (h : zw64 y ≠ 0) (k : zJd G ph p e R s m args below meth c Q (pc + 1) (L, zL (zrem64 x y) :: st, μ, cn, un)) : zJd G ph p e R s m args below meth c Q pc (L, zL y :: zL x :: st, μ, cn, un) := by
  intro H locs ls hl hh hS
  refine lv_lrem A.1 A.2.1 d (z_ne064 h) ?_
  have q := k H locs ls hl hh hS
  rw [show Int64.ofInt x - Int64.ofInt x / Int64.ofInt y * Int64.ofInt y = Int64.ofInt (zrem64 x y) from z_rem64 x y]
  exact q
theorem s_ineg (A : zAm G p s m args c cc own Ts) {x : Int} (d : decode cc pc = .ok (.ineg, 1))  (k : zJd G ph p e R s m args below meth c Q (pc + 1) (L, zI (-x) :: st, μ, cn, un)) : zJd G ph p e R s m args below meth c Q pc (L, zI x :: st, μ, cn, un) := by
  intro H locs ls hl hh hS
  refine lv_ineg A.1 A.2.1 d ?_
  rw [← Int32.ofInt_neg]
  exact k H locs ls hl hh hS
theorem s_iand (A : zAm G p s m args c cc own Ts) {x y : Int} (d : decode cc pc = .ok (.iand, 1))  (k : zJd G ph p e R s m args below meth c Q (pc + 1) (L, zI (zand x y) :: st, μ, cn, un)) : zJd G ph p e R s m args below meth c Q pc (L, zI y :: zI x :: st, μ, cn, un) := by
  intro H locs ls hl hh hS
  refine lv_iand A.1 A.2.1 d ?_
  rw [← z_ofti (Int32.ofInt x &&& Int32.ofInt y)]
  exact k H locs ls hl hh hS
theorem s_ior (A : zAm G p s m args c cc own Ts) {x y : Int} (d : decode cc pc = .ok (.ior, 1))  (k : zJd G ph p e R s m args below meth c Q (pc + 1) (L, zI (zor x y) :: st, μ, cn, un)) : zJd G ph p e R s m args below meth c Q pc (L, zI y :: zI x :: st, μ, cn, un) := by
  intro H locs ls hl hh hS
  refine lv_ior A.1 A.2.1 d ?_
  rw [← z_ofti (Int32.ofInt x ||| Int32.ofInt y)]
  exact k H locs ls hl hh hS
theorem s_ishl (A : zAm G p s m args c cc own Ts) {x y : Int} (d : decode cc pc = .ok (.ishl, 1))  (k : zJd G ph p e R s m args below meth c Q (pc + 1) (L, zI (zshl x y) :: st, μ, cn, un)) : zJd G ph p e R s m args below meth c Q pc (L, zI y :: zI x :: st, μ, cn, un) := by
  intro H locs ls hl hh hS
  refine lv_ishl A.1 A.2.1 d ?_
  rw [← z_ofti (Int32.ofInt x <<< (Int32.ofInt y &&& 31))]
  exact k H locs ls hl hh hS
theorem s_ishr (A : zAm G p s m args c cc own Ts) {x y : Int} (d : decode cc pc = .ok (.ishr, 1))  (k : zJd G ph p e R s m args below meth c Q (pc + 1) (L, zI (zshr x y) :: st, μ, cn, un)) : zJd G ph p e R s m args below meth c Q pc (L, zI y :: zI x :: st, μ, cn, un) := by
  intro H locs ls hl hh hS
  refine lv_ishr A.1 A.2.1 d ?_
  rw [← z_ofti (Int32.ofInt x >>> (Int32.ofInt y &&& 31))]
  exact k H locs ls hl hh hS
theorem s_iushr (A : zAm G p s m args c cc own Ts) {x y : Int} (d : decode cc pc = .ok (.iushr, 1))  (k : zJd G ph p e R s m args below meth c Q (pc + 1) (L, zI (zushr x y) :: st, μ, cn, un)) : zJd G ph p e R s m args below meth c Q pc (L, zI y :: zI x :: st, μ, cn, un) := by
  intro H locs ls hl hh hS
  exact lv_iushr A.1 A.2.1 d (z_ofti _).symm (k H locs ls hl hh hS)
theorem s_i2l (A : zAm G p s m args c cc own Ts) {x : Int} (d : decode cc pc = .ok (.i2l, 1))  (k : zJd G ph p e R s m args below meth c Q (pc + 1) (L, zL (zw x) :: st, μ, cn, un)) : zJd G ph p e R s m args below meth c Q pc (L, zI x :: st, μ, cn, un) := by
  intro H locs ls hl hh hS
  exact lv_i2l A.1 A.2.1 d (z_i2l x) (k H locs ls hl hh hS)
theorem s_l2i (A : zAm G p s m args c cc own Ts) {x : Int} (d : decode cc pc = .ok (.l2i, 1))  (k : zJd G ph p e R s m args below meth c Q (pc + 1) (L, zI (x) :: st, μ, cn, un)) : zJd G ph p e R s m args below meth c Q pc (L, zL x :: st, μ, cn, un) := by
  intro H locs ls hl hh hS
  exact lv_l2i A.1 A.2.1 d (z_l2i x) (k H locs ls hl hh hS)
theorem s_i2b (A : zAm G p s m args c cc own Ts) {x : Int} (d : decode cc pc = .ok (.i2b, 1))  (k : zJd G ph p e R s m args below meth c Q (pc + 1) (L, zI (zb x) :: st, μ, cn, un)) : zJd G ph p e R s m args below meth c Q pc (L, zI x :: st, μ, cn, un) := by
  intro H locs ls hl hh hS
  exact lv_i2b A.1 A.2.1 d (z_i2b x) (k H locs ls hl hh hS)
theorem s_i2s (A : zAm G p s m args c cc own Ts) {x : Int} (d : decode cc pc = .ok (.i2s, 1))  (k : zJd G ph p e R s m args below meth c Q (pc + 1) (L, zI (zsh x) :: st, μ, cn, un)) : zJd G ph p e R s m args below meth c Q pc (L, zI x :: st, μ, cn, un) := by
  intro H locs ls hl hh hS
  exact lv_i2s A.1 A.2.1 d (z_i2s x) (k H locs ls hl hh hS)
theorem s_i2c (A : zAm G p s m args c cc own Ts) {x : Int} (d : decode cc pc = .ok (.i2c, 1))  (k : zJd G ph p e R s m args below meth c Q (pc + 1) (L, zI (x % 65536) :: st, μ, cn, un)) : zJd G ph p e R s m args below meth c Q pc (L, zI x :: st, μ, cn, un) := by
  intro H locs ls hl hh hS
  exact lv_i2c A.1 A.2.1 d (z_i2c x) (k H locs ls hl hh hS)
theorem s_lcmp (A : zAm G p s m args c cc own Ts) {x y : Int} (d : decode cc pc = .ok (.lcmp, 1))  (k : zJd G ph p e R s m args below meth c Q (pc + 1) (L, zI (zlcmp x y) :: st, μ, cn, un)) : zJd G ph p e R s m args below meth c Q pc (L, zL y :: zL x :: st, μ, cn, un) := by
  intro H locs ls hl hh hS
  refine W.lcmp A.1 A.2.1 d ?_
  rw [z_lcmp]
  exact k H locs ls hl hh hS
theorem s_dup (A : zAm G p s m args c cc own Ts) {v : zV} (d : decode cc pc = .ok (.dup, 1)) (h : zcat v = 1) (k : zJd G ph p e R s m args below meth c Q (pc + 1) (L, v :: v :: st, μ, cn, un)) : zJd G ph p e R s m args below meth c Q pc (L, v :: st, μ, cn, un) := by
  intro H locs ls hl hh hS
  exact lv_dup A.1 A.2.1 d (by rw [cv_cat]; exact h) (k H locs ls hl hh hS)
theorem s_pop (A : zAm G p s m args c cc own Ts) {v : zV} (d : decode cc pc = .ok (.pop, 1)) (h : zcat v = 1) (k : zJd G ph p e R s m args below meth c Q (pc + 1) (L, st, μ, cn, un)) : zJd G ph p e R s m args below meth c Q pc (L, v :: st, μ, cn, un) := by
  intro H locs ls hl hh hS
  exact lv_pop A.1 A.2.1 d (by rw [cv_cat]; exact h) (k H locs ls hl hh hS)
theorem s_dup_x1 (A : zAm G p s m args c cc own Ts) {v w : zV} (d : decode cc pc = .ok (.dup_x1, 1)) (h : zcat v = 1) (h2 : zcat w = 1) (k : zJd G ph p e R s m args below meth c Q (pc + 1) (L, v :: w :: v :: st, μ, cn, un)) : zJd G ph p e R s m args below meth c Q pc (L, v :: w :: st, μ, cn, un) := by
  intro H locs ls hl hh hS
  exact lv_dup_x1 A.1 A.2.1 d (by rw [cv_cat]; exact h) (by rw [cv_cat]; exact h2) (k H locs ls hl hh hS)
theorem s_dup_x2 (A : zAm G p s m args c cc own Ts) {v w x : zV} (d : decode cc pc = .ok (.dup_x2, 1)) (h : zcat v = 1) (h2 : zcat w = 1) (h3 : zcat x = 1) (k : zJd G ph p e R s m args below meth c Q (pc + 1) (L, v :: w :: x :: v :: st, μ, cn, un)) : zJd G ph p e R s m args below meth c Q pc (L, v :: w :: x :: st, μ, cn, un) := by
  intro H locs ls hl hh hS
  exact lv_dup_x2 A.1 A.2.1 d (by rw [cv_cat]; exact h) (by rw [cv_cat]; exact h2) (by rw [cv_cat]; exact h3) (k H locs ls hl hh hS)
theorem s_dup2 (A : zAm G p s m args c cc own Ts) {v w : zV} (d : decode cc pc = .ok (.dup2, 1)) (h : zcat v = 1) (h2 : zcat w = 1) (k : zJd G ph p e R s m args below meth c Q (pc + 1) (L, v :: w :: v :: w :: st, μ, cn, un)) : zJd G ph p e R s m args below meth c Q pc (L, v :: w :: st, μ, cn, un) := by
  intro H locs ls hl hh hS
  exact lv_dup2_11 A.1 A.2.1 d (by rw [cv_cat]; exact h) (by rw [cv_cat]; exact h2) (k H locs ls hl hh hS)
theorem s_pop2 (A : zAm G p s m args c cc own Ts) {v : zV} (d : decode cc pc = .ok (.pop2, 1)) (h : zcat v = 2) (k : zJd G ph p e R s m args below meth c Q (pc + 1) (L, st, μ, cn, un)) : zJd G ph p e R s m args below meth c Q pc (L, v :: st, μ, cn, un) := by
  intro H locs ls hl hh hS
  exact lv_pop2_2 A.1 A.2.1 d (by rw [cv_cat]; exact h) (k H locs ls hl hh hS)
theorem s_if_eq (A : zAm G p s m args c cc own Ts) {x : Int} {off : Int} {tgt : Nat} (d : decode cc pc = .ok (.ifCond .eq off, 3)) (ht : (pc : Int) + off = (tgt : Int)) (kt : zw x = 0 → zJd G ph p e R s m args below meth c Q tgt (L, st, μ, cn, un)) (kf : ¬ (zw x = 0) → zJd G ph p e R s m args below meth c Q (pc + 3) (L, st, μ, cn, un)) : zJd G ph p e R s m args below meth c Q pc (L, zI x :: st, μ, cn, un) := by
  intro H locs ls hl hh hS
  exact lv_if_eq A.1 A.2.1 d ht (fun q => kt ((z_eq x 0).mp q) H locs ls hl hh hS) (fun q => kf (fun r => q ((z_eq x 0).mpr r)) H locs ls hl hh hS)
theorem s_icmp_eq (A : zAm G p s m args c cc own Ts) {x y : Int} {off : Int} {tgt : Nat} (d : decode cc pc = .ok (.if_icmp .eq off, 3)) (ht : (pc : Int) + off = (tgt : Int)) (kt : zw x = zw y → zJd G ph p e R s m args below meth c Q tgt (L, st, μ, cn, un)) (kf : ¬ (zw x = zw y) → zJd G ph p e R s m args below meth c Q (pc + 3) (L, st, μ, cn, un)) : zJd G ph p e R s m args below meth c Q pc (L, zI y :: zI x :: st, μ, cn, un) := by
  intro H locs ls hl hh hS
  exact lv_icmp_eq A.1 A.2.1 d ht (fun q => kt ((z_eq x y).mp q) H locs ls hl hh hS) (fun q => kf (fun r => q ((z_eq x y).mpr r)) H locs ls hl hh hS)
theorem s_if_ne (A : zAm G p s m args c cc own Ts) {x : Int} {off : Int} {tgt : Nat} (d : decode cc pc = .ok (.ifCond .ne off, 3)) (ht : (pc : Int) + off = (tgt : Int)) (kt : ¬ zw x = 0 → zJd G ph p e R s m args below meth c Q tgt (L, st, μ, cn, un)) (kf : zw x = 0 → zJd G ph p e R s m args below meth c Q (pc + 3) (L, st, μ, cn, un)) : zJd G ph p e R s m args below meth c Q pc (L, zI x :: st, μ, cn, un) := by
  intro H locs ls hl hh hS
  exact lv_if_ne A.1 A.2.1 d ht (fun q => kt ((not_congr (z_eq x 0)).mp q) H locs ls hl hh hS) (fun q => kf ((z_eq x 0).mp q) H locs ls hl hh hS)
theorem s_icmp_ne (A : zAm G p s m args c cc own Ts) {x y : Int} {off : Int} {tgt : Nat} (d : decode cc pc = .ok (.if_icmp .ne off, 3)) (ht : (pc : Int) + off = (tgt : Int)) (kt : ¬ zw x = zw y → zJd G ph p e R s m args below meth c Q tgt (L, st, μ, cn, un)) (kf : zw x = zw y → zJd G ph p e R s m args below meth c Q (pc + 3) (L, st, μ, cn, un)) : zJd G ph p e R s m args below meth c Q pc (L, zI y :: zI x :: st, μ, cn, un) := by
  intro H locs ls hl hh hS
  exact lv_icmp_ne A.1 A.2.1 d ht (fun q => kt ((not_congr (z_eq x y)).mp q) H locs ls hl hh hS) (fun q => kf ((z_eq x y).mp q) H locs ls hl hh hS)
theorem s_if_lt (A : zAm G p s m args c cc own Ts) {x : Int} {off : Int} {tgt : Nat} (d : decode cc pc = .ok (.ifCond .lt off, 3)) (ht : (pc : Int) + off = (tgt : Int)) (kt : zw x < 0 → zJd G ph p e R s m args below meth c Q tgt (L, st, μ, cn, un)) (kf : ¬ (zw x < 0) → zJd G ph p e R s m args below meth c Q (pc + 3) (L, st, μ, cn, un)) : zJd G ph p e R s m args below meth c Q pc (L, zI x :: st, μ, cn, un) := by
  intro H locs ls hl hh hS
  exact lv_if_lt A.1 A.2.1 d ht (fun q => kt ((z_lt x 0).mp q) H locs ls hl hh hS) (fun q => kf (fun r => q ((z_lt x 0).mpr r)) H locs ls hl hh hS)
theorem s_icmp_lt (A : zAm G p s m args c cc own Ts) {x y : Int} {off : Int} {tgt : Nat} (d : decode cc pc = .ok (.if_icmp .lt off, 3)) (ht : (pc : Int) + off = (tgt : Int)) (kt : zw x < zw y → zJd G ph p e R s m args below meth c Q tgt (L, st, μ, cn, un)) (kf : ¬ (zw x < zw y) → zJd G ph p e R s m args below meth c Q (pc + 3) (L, st, μ, cn, un)) : zJd G ph p e R s m args below meth c Q pc (L, zI y :: zI x :: st, μ, cn, un) := by
  intro H locs ls hl hh hS
  exact lv_icmp_lt A.1 A.2.1 d ht (fun q => kt ((z_lt x y).mp q) H locs ls hl hh hS) (fun q => kf (fun r => q ((z_lt x y).mpr r)) H locs ls hl hh hS)
theorem s_if_ge (A : zAm G p s m args c cc own Ts) {x : Int} {off : Int} {tgt : Nat} (d : decode cc pc = .ok (.ifCond .ge off, 3)) (ht : (pc : Int) + off = (tgt : Int)) (kt : 0 ≤ zw x → zJd G ph p e R s m args below meth c Q tgt (L, st, μ, cn, un)) (kf : ¬ (0 ≤ zw x) → zJd G ph p e R s m args below meth c Q (pc + 3) (L, st, μ, cn, un)) : zJd G ph p e R s m args below meth c Q pc (L, zI x :: st, μ, cn, un) := by
  intro H locs ls hl hh hS
  exact lv_if_ge A.1 A.2.1 d ht (fun q => kt ((z_le 0 x).mp q) H locs ls hl hh hS) (fun q => kf (fun r => q ((z_le 0 x).mpr r)) H locs ls hl hh hS)
theorem s_icmp_ge (A : zAm G p s m args c cc own Ts) {x y : Int} {off : Int} {tgt : Nat} (d : decode cc pc = .ok (.if_icmp .ge off, 3)) (ht : (pc : Int) + off = (tgt : Int)) (kt : zw y ≤ zw x → zJd G ph p e R s m args below meth c Q tgt (L, st, μ, cn, un)) (kf : ¬ (zw y ≤ zw x) → zJd G ph p e R s m args below meth c Q (pc + 3) (L, st, μ, cn, un)) : zJd G ph p e R s m args below meth c Q pc (L, zI y :: zI x :: st, μ, cn, un) := by
  intro H locs ls hl hh hS
  exact lv_icmp_ge A.1 A.2.1 d ht (fun q => kt ((z_le y x).mp q) H locs ls hl hh hS) (fun q => kf (fun r => q ((z_le y x).mpr r)) H locs ls hl hh hS)
theorem s_if_gt (A : zAm G p s m args c cc own Ts) {x : Int} {off : Int} {tgt : Nat} (d : decode cc pc = .ok (.ifCond .gt off, 3)) (ht : (pc : Int) + off = (tgt : Int)) (kt : 0 < zw x → zJd G ph p e R s m args below meth c Q tgt (L, st, μ, cn, un)) (kf : ¬ (0 < zw x) → zJd G ph p e R s m args below meth c Q (pc + 3) (L, st, μ, cn, un)) : zJd G ph p e R s m args below meth c Q pc (L, zI x :: st, μ, cn, un) := by
  intro H locs ls hl hh hS
  exact lv_if_gt A.1 A.2.1 d ht (fun q => kt ((z_lt 0 x).mp q) H locs ls hl hh hS) (fun q => kf (fun r => q ((z_lt 0 x).mpr r)) H locs ls hl hh hS)
theorem s_icmp_gt (A : zAm G p s m args c cc own Ts) {x y : Int} {off : Int} {tgt : Nat} (d : decode cc pc = .ok (.if_icmp .gt off, 3)) (ht : (pc : Int) + off = (tgt : Int)) (kt : zw y < zw x → zJd G ph p e R s m args below meth c Q tgt (L, st, μ, cn, un)) (kf : ¬ (zw y < zw x) → zJd G ph p e R s m args below meth c Q (pc + 3) (L, st, μ, cn, un)) : zJd G ph p e R s m args below meth c Q pc (L, zI y :: zI x :: st, μ, cn, un) := by
  intro H locs ls hl hh hS
  exact lv_icmp_gt A.1 A.2.1 d ht (fun q => kt ((z_lt y x).mp q) H locs ls hl hh hS) (fun q => kf (fun r => q ((z_lt y x).mpr r)) H locs ls hl hh hS)
theorem s_if_le (A : zAm G p s m args c cc own Ts) {x : Int} {off : Int} {tgt : Nat} (d : decode cc pc = .ok (.ifCond .le off, 3)) (ht : (pc : Int) + off = (tgt : Int)) (kt : zw x ≤ 0 → zJd G ph p e R s m args below meth c Q tgt (L, st, μ, cn, un)) (kf : ¬ (zw x ≤ 0) → zJd G ph p e R s m args below meth c Q (pc + 3) (L, st, μ, cn, un)) : zJd G ph p e R s m args below meth c Q pc (L, zI x :: st, μ, cn, un) := by
  intro H locs ls hl hh hS
  exact lv_if_le A.1 A.2.1 d ht (fun q => kt ((z_le x 0).mp q) H locs ls hl hh hS) (fun q => kf (fun r => q ((z_le x 0).mpr r)) H locs ls hl hh hS)
theorem s_icmp_le (A : zAm G p s m args c cc own Ts) {x y : Int} {off : Int} {tgt : Nat} (d : decode cc pc = .ok (.if_icmp .le off, 3)) (ht : (pc : Int) + off = (tgt : Int)) (kt : zw x ≤ zw y → zJd G ph p e R s m args below meth c Q tgt (L, st, μ, cn, un)) (kf : ¬ (zw x ≤ zw y) → zJd G ph p e R s m args below meth c Q (pc + 3) (L, st, μ, cn, un)) : zJd G ph p e R s m args below meth c Q pc (L, zI y :: zI x :: st, μ, cn, un) := by
  intro H locs ls hl hh hS
  exact lv_icmp_le A.1 A.2.1 d ht (fun q => kt ((z_le x y).mp q) H locs ls hl hh hS) (fun q => kf (fun r => q ((z_le x y).mpr r)) H locs ls hl hh hS)
theorem s_goto (A : zAm G p s m args c cc own Ts) {off : Int} {tgt : Nat} (d : decode cc pc = .ok (.goto off, 3)) (ht : (pc : Int) + off = (tgt : Int)) (k : zJd G ph p e R s m args below meth c Q tgt (L, st, μ, cn, un)) : zJd G ph p e R s m args below meth c Q pc (L, st, μ, cn, un) := by
  intro H locs ls hl hh hS
  exact lv_goto A.1 A.2.1 d ht (k H locs ls hl hh hS)
theorem s_ifnull (A : zAm G p s m args c cc own Ts) {r : Option Nat} {off : Int} {tgt : Nat} (d : decode cc pc = .ok (.ifnull off, 3)) (ht : (pc : Int) + off = (tgt : Int)) (kt : r = none → zJd G ph p e R s m args below meth c Q tgt (L, st, μ, cn, un)) (kf : ∀ a, r = some a → zJd G ph p e R s m args below meth c Q (pc + 3) (L, st, μ, cn, un)) : zJd G ph p e R s m args below meth c Q pc (L, zR r :: st, μ, cn, un) := by
  intro H locs ls hl hh hS
  cases r with
  | none => exact lv_ifnullN A.1 A.2.1 d ht (kt rfl H locs ls hl hh hS)
  | some a => exact lv_ifnull A.1 A.2.1 d (kf a rfl H locs ls hl hh hS)
theorem s_ifnonnull (A : zAm G p s m args c cc own Ts) {r : Option Nat} {off : Int} {tgt : Nat} (d : decode cc pc = .ok (.ifnonnull off, 3)) (ht : (pc : Int) + off = (tgt : Int)) (kt : ∀ a, r = some a → zJd G ph p e R s m args below meth c Q tgt (L, st, μ, cn, un)) (kf : r = none → zJd G ph p e R s m args below meth c Q (pc + 3) (L, st, μ, cn, un)) : zJd G ph p e R s m args below meth c Q pc (L, zR r :: st, μ, cn, un) := by
  intro H locs ls hl hh hS
  cases r with
  | none => exact lv_ifnonnullN A.1 A.2.1 d (kf rfl H locs ls hl hh hS)
  | some a => exact lv_ifnonnull A.1 A.2.1 d ht (kt a rfl H locs ls hl hh hS)
theorem s_null (A : zAm G p s m args c cc own Ts) (d : decode cc pc = .ok (.aconst_null, 1))  (k : zJd G ph p e R s m args below meth c Q (pc + 1) (L, zR none :: st, μ, cn, un)) : zJd G ph p e R s m args below meth c Q pc (L, st, μ, cn, un) := by
  intro H locs ls hl hh hS
  exact lv_null A.1 A.2.1 d (k H locs ls hl hh hS)
end
