def cf_by (f : Nat → Nat) : Nat → Nat → Nat
  | 0, _ => 0
  | n + 1, x => f (x % 256) + 256 * cf_by f n (x / 256)
def cf_mk (a : Nat) : Nat → Nat
  | 0 => 0
  | n + 1 => a + 256 * cf_mk a n
theorem cf_andsp {x a b : Nat} (ha : a < 256) : x &&& (a + 256 * b) = (x % 256 &&& a) + 256 * (x / 256 &&& b) := by
  have h1 : (x &&& (a + 256 * b)) % 256 = x % 256 &&& a := by
    have := Nat.and_mod_two_pow (a := x) (b := a + 256 * b) (n := 8)
    rw [show (2 : Nat) ^ 8 = 256 from rfl] at this
    rw [this]; congr 1; omega
  have h2 : (x &&& (a + 256 * b)) / 256 = x / 256 &&& b := by
    have := Nat.and_div_two_pow (a := x) (b := a + 256 * b) (n := 8)
    rw [show (2 : Nat) ^ 8 = 256 from rfl] at this
    rw [this]; congr 1; omega
  have := Nat.div_add_mod (x &&& (a + 256 * b)) 256
  omega
def cf_p1 (b : Nat) : Nat := b - ((b / 2) &&& 85)
def cf_p2 (b : Nat) : Nat := (cf_p1 b &&& 51) + ((cf_p1 b / 4) &&& 51)
def cf_p3 (b : Nat) : Nat := (cf_p2 b + cf_p2 b / 16) % 16
set_option maxRecDepth 100000 in
theorem cf_d1 : ∀ y : Fin 512, (y.val / 2) % 256 &&& 85 = (y.val % 256) / 2 &&& 85 := by decide +kernel
set_option maxRecDepth 100000 in
theorem cf_d2 : ∀ y : Fin 1024, (y.val / 4) % 256 &&& 51 = (y.val % 256) / 4 &&& 51 := by decide +kernel
set_option maxRecDepth 100000 in
theorem cf_d3 : ∀ b : Fin 256, (b.val / 2 &&& 85) ≤ b.val ∧ cf_p1 b.val < 256 ∧ cf_p2 b.val < 256 ∧ cf_p2 b.val % 16 ≤ 4 ∧ cf_p2 b.val / 16 ≤ 4 ∧ cf_p3 b.val ≤ 8 := by decide +kernel
set_option maxRecDepth 100000 in
theorem cf_d4 : ∀ b : Fin 256, cf_p3 b.val = cf_sum (fun j => bif b.val.testBit j then 1 else 0) 8 := by decide +kernel
set_option maxRecDepth 100000 in
theorem cf_d5 : ∀ b : Fin 256, b.val &&& 15 = b.val % 16 := by decide +kernel
theorem cf_bymod {f : Nat → Nat} (hf : ∀ b, b < 256 → f b < 256) (n x : Nat) : cf_by f (n + 1) x % 256 = f (x % 256) ∧ cf_by f (n + 1) x / 256 = cf_by f n (x / 256) := by
  have := hf (x % 256) (by omega)
  rw [cf_by]
  constructor <;> omega
theorem cf_s1a : ∀ (n x : Nat), (x / 2) &&& cf_mk 85 n = cf_by (fun b => (b / 2) &&& 85) n x
  | 0, x => by rw [cf_mk, cf_by, Nat.and_zero]
  | n + 1, x => by
    rw [cf_mk, cf_by, cf_andsp (by decide), show x / 2 / 256 = x / 256 / 2 by omega, cf_s1a n]
    have := cf_d1 ⟨x % 512, by omega⟩
    dsimp only at this
    rw [show x % 512 % 256 = x % 256 by omega, show x % 512 / 2 % 256 = x / 2 % 256 by omega] at this
    rw [this]
theorem cf_s1 : ∀ (n x : Nat), x < 256 ^ n → x = ((x / 2) &&& cf_mk 85 n) + cf_by cf_p1 n x
  | 0, x, h => by rw [cf_mk, cf_by, Nat.and_zero]; rw [Nat.pow_zero] at h; omega
  | n + 1, x, h => by
    have ih := cf_s1 n (x / 256) (by rw [Nat.pow_succ] at h; exact Nat.div_lt_of_lt_mul (by rw [Nat.mul_comm]; exact h))
    rw [cf_s1a] at ih ⊢
    rw [cf_by, cf_by]
    have h3 := (cf_d3 ⟨x % 256, by omega⟩).1
    dsimp only at h3
    unfold cf_p1
    unfold cf_p1 at ih
    omega
theorem cf_s2a {f : Nat → Nat} (hf : ∀ b, b < 256 → f b < 256) : ∀ (n x : Nat), cf_by f n x &&& cf_mk 51 n = cf_by (fun b => f b &&& 51) n x
  | 0, x => by rw [cf_mk, cf_by, cf_by, Nat.and_zero]
  | n + 1, x => by
    rw [cf_mk, cf_andsp (by decide), (cf_bymod hf n x).1, (cf_bymod hf n x).2, cf_s2a hf n, cf_by]
theorem cf_s2b {f : Nat → Nat} (hf : ∀ b, b < 256 → f b < 256) : ∀ (n x : Nat), (cf_by f n x / 4) &&& cf_mk 51 n = cf_by (fun b => f b / 4 &&& 51) n x
  | 0, x => by rw [cf_mk, cf_by, cf_by, Nat.and_zero]
  | n + 1, x => by
    rw [cf_mk, cf_andsp (by decide), show ∀ y : Nat, y / 4 / 256 = y / 256 / 4 by intro y; omega, (cf_bymod hf n x).2, cf_s2b hf n]
    have := cf_d2 ⟨cf_by f (n + 1) x % 1024, by omega⟩
    dsimp only at this
    rw [show cf_by f (n + 1) x % 1024 % 256 = cf_by f (n + 1) x % 256 by omega, show cf_by f (n + 1) x % 1024 / 4 % 256 = cf_by f (n + 1) x / 4 % 256 by omega, (cf_bymod hf n x).1] at this
    rw [this, cf_by]
theorem cf_byadd {f g : Nat → Nat} : ∀ (n x : Nat), cf_by f n x + cf_by g n x = cf_by (fun b => f b + g b) n x
  | 0, x => rfl
  | n + 1, x => by
    rw [cf_by, cf_by, cf_by, ← cf_byadd n]
    omega
theorem cf_s3 : ∀ (n x : Nat), (cf_by cf_p2 n x + cf_by cf_p2 n x / 16) &&& cf_mk 15 n = cf_by cf_p3 n x
  | 0, x => by rw [cf_mk, cf_by, cf_by, Nat.and_zero]
  | n + 1, x => by
    have h3 := (cf_d3 ⟨x % 256, by omega⟩)
    dsimp only at h3
    have hz := cf_bymod (f := cf_p2) (fun b hb => (cf_d3 ⟨b, hb⟩).2.2.1) n x
    have h4 : cf_by cf_p2 n (x / 256) % 16 ≤ 4 := by
      cases n with
      | zero => rw [cf_by]; decide
      | succ n =>
        have := (cf_bymod (f := cf_p2) (fun b hb => (cf_d3 ⟨b, hb⟩).2.2.1) n (x / 256)).1
        have h5 := (cf_d3 ⟨x / 256 % 256, by omega⟩)
        dsimp only at h5
        omega
    generalize hZ : cf_by cf_p2 (n + 1) x = Z at *
    generalize hY : cf_by cf_p2 n (x / 256) = Y at *
    generalize hp : cf_p2 (x % 256) = p at *
    have hZ2 : Z = p + 256 * Y := by omega
    have e0 : Z / 16 = p / 16 + 16 * Y := by omega
    have e1 : (Z + Z / 16) / 256 = Y + Y / 16 := by omega
    have e2 : (Z + Z / 16) % 256 % 16 = (p + p / 16) % 16 := by omega
    rw [cf_mk, cf_andsp (by decide), e1, ← hY, cf_s3 n, cf_by]
    have := cf_d5 ⟨(Z + Z / 16) % 256, by omega⟩
    dsimp only at this
    rw [this, e2, ← hp]
    rfl
theorem cf_s4 {p q x : Nat} (hp : p ≤ 200) (hx : x = p + 256 * q) : x / 256 = q := by omega
theorem cf_dv {p q : Nat} (hp : p < 256) : (p + 256 * q) / 256 = q := by omega
theorem cf_ad (p q a b : Nat) : (p + 256 * a) + (q + 256 * b) = (p + q) + 256 * (a + b) := by omega
theorem cf_ae (p a q : Nat) : (p + 256 * a) + q = (p + q) + 256 * a := by omega
theorem cf_s6 (p0 p1 p2 p3 p4 p5 p6 p7 : Nat) (h0 : p0 ≤ 8) (h1 : p1 ≤ 8) (h2 : p2 ≤ 8) (h3 : p3 ≤ 8) (h4 : p4 ≤ 8) (h5 : p5 ≤ 8) (h6 : p6 ≤ 8) (h7 : p7 ≤ 8) : ∀ (x y z : Nat) (hx : x = p0 + 256 * (p1 + 256 * (p2 + 256 * (p3 + 256 * (p4 + 256 * (p5 + 256 * (p6 + 256 * p7)))))))
    (hy : y = x + x / 256) (hz : z = y + y / 65536), (z + z / 4294967296) % 128 = p0 + p1 + p2 + p3 + p4 + p5 + p6 + p7 ∧ z + z / 4294967296 < 2 ^ 64 ∧ y < 2 ^ 64 ∧ z < 2 ^ 64 := by
  have a0 : p0 < 256 := by omega
  have a1 : p0 + p1 < 256 := by omega
  have a2 : p1 + p2 < 256 := by omega
  have a3 : p0 + p1 + (p2 + p3) < 256 := by omega
  have a4 : p1 + p2 + (p3 + p4) < 256 := by omega
  have a5 : p2 + p3 + (p4 + p5) < 256 := by omega
  have a6 : p3 + p4 + (p5 + p6) < 256 := by omega
  have f1 : p0 + p1 + (p2 + p3) + (p4 + p5 + (p6 + p7)) = p0 + p1 + p2 + p3 + p4 + p5 + p6 + p7 := by omega
  have f2 : p0 + p1 + p2 + p3 + p4 + p5 + p6 + p7 < 128 := by omega
  have g2 : ∀ A B C D E F G H : Nat, A ≤ 64 → B ≤ 64 → C ≤ 64 → D ≤ 64 → E ≤ 64 → F ≤ 64 → G ≤ 64 → H ≤ 64 → A + 256 * (B + 256 * (C + 256 * (D + 256 * (E + 256 * (F + 256 * (G + 256 * H)))))) < 2 ^ 64 := by
    intro A B C D E F G H hA hB hC hD hE hF hG hH
    have u1 : G + 256 * H ≤ 64 * 257 := by omega
    have u2 : F + 256 * (G + 256 * H) ≤ 64 * 65793 := by omega
    generalize G + 256 * H = X1 at *
    have u3 : E + 256 * (F + 256 * X1) ≤ 64 * 16843009 := by omega
    generalize F + 256 * X1 = X2 at *
    generalize E + 256 * X2 = X3 at *
    have u4 : D + 256 * X3 ≤ 64 * 4311810305 := by omega
    generalize D + 256 * X3 = X4 at *
    have u5 : C + 256 * X4 ≤ 64 * 1103823438081 := by omega
    generalize C + 256 * X4 = X5 at *
    have u6 : B + 256 * X5 ≤ 64 * 282578800148737 := by omega
    generalize B + 256 * X5 = X6 at *
    omega
  have b1 : p1 + p2 + (p3 + p4) + (p5 + p6 + p7) ≤ 64 := by omega
  have b2 : p2 + p3 + (p4 + p5) + (p6 + p7) ≤ 64 := by omega
  have b3 : p3 + p4 + (p5 + p6) + p7 ≤ 64 := by omega
  have b4 : p4 + p5 + (p6 + p7) ≤ 64 := by omega
  have b5 : p5 + p6 + p7 ≤ 64 := by omega
  have b6 : p6 + p7 ≤ 64 := by omega
  have b7 : p7 ≤ 64 := by omega
  have c1 : p0 + p1 ≤ 64 := by omega
  have c2 : p1 + p2 ≤ 64 := by omega
  have c3 : p2 + p3 ≤ 64 := by omega
  have c4 : p3 + p4 ≤ 64 := by omega
  have c5 : p4 + p5 ≤ 64 := by omega
  have c6 : p5 + p6 ≤ 64 := by omega
  have d1 : p0 + p1 + (p2 + p3) ≤ 64 := by omega
  have d2 : p1 + p2 + (p3 + p4) ≤ 64 := by omega
  have d3 : p2 + p3 + (p4 + p5) ≤ 64 := by omega
  have d4 : p3 + p4 + (p5 + p6) ≤ 64 := by omega
  have d5 : p0 + p1 + (p2 + p3) + (p4 + p5 + (p6 + p7)) ≤ 64 := by omega
  intro x y z hx hy hz
  have e2 : y = (p0 + p1) + 256 * ((p1 + p2) + 256 * ((p2 + p3) + 256 * ((p3 + p4) + 256 * ((p4 + p5) + 256 * ((p5 + p6) + 256 * ((p6 + p7) + 256 * p7)))))) := by
    rw [hy, hx, cf_dv a0]
    simp only [cf_ad]
    rw [cf_ae p6 p7 p7]
  have e4 : z = (p0 + p1 + (p2 + p3)) + 256 * ((p1 + p2 + (p3 + p4)) + 256 * ((p2 + p3 + (p4 + p5)) + 256 * ((p3 + p4 + (p5 + p6)) + 256 * ((p4 + p5 + (p6 + p7)) + 256 * ((p5 + p6 + p7) + 256 * ((p6 + p7) + 256 * p7)))))) := by
    rw [hz, e2, show 65536 = 256 * 256 from rfl, ← Nat.div_div_eq_div_mul, cf_dv a1, cf_dv a2]
    simp only [cf_ad]
    rw [cf_ae (p5 + p6) (p6 + p7 + 256 * p7) p7]
  have e5 : z / 4294967296 = (p4 + p5 + (p6 + p7)) + 256 * ((p5 + p6 + p7) + 256 * ((p6 + p7) + 256 * p7)) := by
    rw [e4, show 4294967296 = 256 * 256 * 256 * 256 from rfl, ← Nat.div_div_eq_div_mul, ← Nat.div_div_eq_div_mul, ← Nat.div_div_eq_div_mul, cf_dv a3, cf_dv a4, cf_dv a5, cf_dv a6]
  have e6 : z + z / 4294967296 = (p0 + p1 + (p2 + p3) + (p4 + p5 + (p6 + p7))) + 256 * ((p1 + p2 + (p3 + p4) + (p5 + p6 + p7)) + 256 * ((p2 + p3 + (p4 + p5) + (p6 + p7)) + 256 * ((p3 + p4 + (p5 + p6) + p7) + 256 * ((p4 + p5 + (p6 + p7)) + 256 * ((p5 + p6 + p7) + 256 * ((p6 + p7) + 256 * p7)))))) := by
    rw [e5, e4]
    simp only [cf_ad]
    rw [cf_ae (p3 + p4 + (p5 + p6)) _ p7]
  refine ⟨?_, ?_, ?_, ?_⟩
  · rw [e6, f1]
    generalize p0 + p1 + p2 + p3 + p4 + p5 + p6 + p7 = A at *
    generalize p1 + p2 + (p3 + p4) + (p5 + p6 + p7) + _ = B
    clear e2 e4 e5 e6 hx hy hz g2
    omega
  · rw [e6]; exact g2 _ _ _ _ _ _ _ _ d5 b1 b2 b3 b4 b5 b6 b7
  · rw [e2]; exact g2 _ _ _ _ _ _ _ _ c1 c2 c3 c4 c5 c6 b6 b7
  · rw [e4]; exact g2 _ _ _ _ _ _ _ _ d1 d2 d3 d4 b4 b5 b6 b7
/-- how many squares a set has -/
def cf_pop (x : Int64) : Nat := cf_sum (fun q => bif cf_has x q then 1 else 0) 64
def cf_sr (x : Int64) (k : Int32) : Int64 := (x.toUInt64 >>> (k.toInt64.toUInt64 &&& Int64.toUInt64 63)).toInt64
def cf_u (x : Int64) : Nat := x.toBitVec.toNat
theorem cf_u_sr (x : Int64) (k : Nat) (hk : k < 64) : cf_u (cf_sr x (nI k)) = cf_u x / 2 ^ k := by
  have hk2 : ((nI k).toInt64.toUInt64 &&& Int64.toUInt64 63).toBitVec.toNat % 64 = k := by
    rw [nI_l (by omega)]
    have : ∀ i : Fin 64, ((lN i.val).toUInt64 &&& Int64.toUInt64 63).toBitVec.toNat % 64 = i.val := by decide +kernel
    exact this ⟨k, hk⟩
  show (x.toUInt64 >>> ((nI k).toInt64.toUInt64 &&& Int64.toUInt64 63)).toBitVec.toNat = _
  rw [UInt64.toBitVec_shiftRight]
  simp only [BitVec.ushiftRight_eq']
  rw [BitVec.toNat_ushiftRight, BitVec.toNat_umod]
  rw [show (64 : BitVec 64).toNat = 64 from rfl, hk2, Nat.shiftRight_eq_div_pow]
  rfl
theorem cf_u_and (x y : Int64) : cf_u (x &&& y) = cf_u x &&& cf_u y := by unfold cf_u; rw [Int64.toBitVec_and, BitVec.toNat_and]
theorem cf_u_add (x y : Int64) (h : cf_u x + cf_u y < 2 ^ 64) : cf_u (x + y) = cf_u x + cf_u y := by
  unfold cf_u at *; rw [Int64.toBitVec_add, BitVec.toNat_add, Nat.mod_eq_of_lt h]
theorem cf_u_sub (x y : Int64) (h : cf_u y ≤ cf_u x) : cf_u (x - y) = cf_u x - cf_u y := by
  unfold cf_u at *; rw [Int64.toBitVec_sub, BitVec.toNat_sub_of_le h]
theorem cf_u_lt (x : Int64) : cf_u x < 2 ^ 64 := x.toBitVec.isLt
theorem cf_by_le {f : Nat → Nat} {b : Nat} (hf : ∀ x, x < 256 → f x ≤ b) : ∀ (n x : Nat), cf_by f n x ≤ b * cf_mk 1 n
  | 0, x => by rw [cf_by]; omega
  | n + 1, x => by
    have := cf_by_le hf n (x / 256)
    have := hf (x % 256) (by omega)
    rw [cf_by, cf_mk, Nat.mul_add, Nat.mul_left_comm]
    omega
theorem cf_bit (x : Int64) (i : Nat) (j : Nat) (hj : j < 8) : (cf_u x / 256 ^ i % 256).testBit j = cf_has x (8 * i + j) := by
  rw [show (256 : Nat) = 2 ^ 8 from rfl, ← Nat.pow_mul, Nat.testBit_mod_two_pow, decide_eq_true hj, Bool.true_and, Nat.testBit_div_two_pow]
  unfold cf_has cf_u
  rw [BitVec.getLsbD, Nat.add_comm]
theorem cf_p3b (x : Int64) (i : Nat) : cf_p3 (cf_u x / 256 ^ i % 256) = cf_sum (fun j => bif cf_has x (8 * i + j) then 1 else 0) 8 := by
  have := cf_d4 ⟨cf_u x / 256 ^ i % 256, by omega⟩
  dsimp only at this
  rw [this]
  simp only [cf_sum, cf_bit x i _ (show 0 < 8 by decide), cf_bit x i _ (show 1 < 8 by decide), cf_bit x i _ (show 2 < 8 by decide), cf_bit x i _ (show 3 < 8 by decide), cf_bit x i _ (show 4 < 8 by decide), cf_bit x i _ (show 5 < 8 by decide), cf_bit x i _ (show 6 < 8 by decide), cf_bit x i _ (show 7 < 8 by decide)]
theorem cf_sum_add (f : Nat → Nat) (a : Nat) : ∀ b, cf_sum f (a + b) = cf_sum f a + cf_sum (fun j => f (a + j)) b
  | 0 => rfl
  | b + 1 => by rw [← Nat.add_assoc, cf_sum, cf_sum_add f a b, cf_sum, Nat.add_assoc]
theorem cf_swar (x a b c d e f : Int64) (ha : a = x - (cf_sr x 1 &&& 6148914691236517205)) (hb : b = (a &&& 3689348814741910323) + (cf_sr a 2 &&& 3689348814741910323)) (hc : c = (b + cf_sr b 4) &&& 1085102592571150095)
    (hd : d = c + cf_sr c 8) (he : e = d + cf_sr d 16) (hf : f = e + cf_sr e 32) : Int64.toInt32 f &&& 127 = nI (cf_pop x) := by
  have m1 : cf_u 6148914691236517205 = cf_mk 85 8 := by decide +kernel
  have m2 : cf_u 3689348814741910323 = cf_mk 51 8 := by decide +kernel
  have m3 : cf_u 1085102592571150095 = cf_mk 15 8 := by decide +kernel
  have hx := cf_u_lt x
  have k1 : ∀ b, b < 256 → cf_p1 b < 256 := fun b hb => (cf_d3 ⟨b, hb⟩).2.1
  have ua : cf_u a = cf_by cf_p1 8 (cf_u x) := by
    have := cf_s1 8 (cf_u x) (by rw [show 256 ^ 8 = 2 ^ 64 from rfl]; exact hx)
    rw [ha, cf_u_sub] <;> rw [cf_u_and, m1, show (1 : Int32) = nI 1 from rfl, cf_u_sr x 1 (by decide), Nat.pow_one] <;> omega
  have hp2 : cf_by cf_p2 8 (cf_u x) ≤ 68 * cf_mk 1 8 := cf_by_le (fun y hy => by have := (cf_d3 ⟨y, hy⟩).2.2; dsimp only at this; omega) 8 _
  have hm1 : cf_mk 1 8 = 72340172838076673 := by decide +kernel
  have ub : cf_u b = cf_by cf_p2 8 (cf_u x) := by
    have e1 : cf_u (a &&& 3689348814741910323) + cf_u (cf_sr a 2 &&& 3689348814741910323) = cf_by cf_p2 8 (cf_u x) := by
      rw [cf_u_and, cf_u_and, m2, show (2 : Int32) = nI 2 from rfl, cf_u_sr a 2 (by decide), ua, cf_s2a k1, show (2 : Nat) ^ 2 = 4 from rfl, cf_s2b k1, cf_byadd]
      rfl
    rw [hb, cf_u_add _ _ (by omega), e1]
  have uc : cf_u c = cf_by cf_p3 8 (cf_u x) := by
    rw [hc, cf_u_and, m3, cf_u_add]
    · rw [show (4 : Int32) = nI 4 from rfl, cf_u_sr b 4 (by decide), ub, show (2 : Nat) ^ 4 = 16 from rfl, cf_s3]
    · rw [show (4 : Int32) = nI 4 from rfl, cf_u_sr b 4 (by decide), ub]; omega
  have hq : ∀ i, cf_p3 (cf_u x / 256 ^ i % 256) ≤ 8 := fun i => (cf_d3 ⟨cf_u x / 256 ^ i % 256, by omega⟩).2.2.2.2.2
  have h6 := cf_s6 _ _ _ _ _ _ _ _ (hq 0) (hq 1) (hq 2) (hq 3) (hq 4) (hq 5) (hq 6) (hq 7) (cf_u c) (cf_u c + cf_u c / 256) (cf_u c + cf_u c / 256 + (cf_u c + cf_u c / 256) / 65536) (by
    rw [uc]
    simp only [cf_by, Nat.div_div_eq_div_mul, Nat.pow_zero, Nat.div_one, Nat.mul_zero, Nat.add_zero]) rfl rfl
  have ud : cf_u d = cf_u c + cf_u c / 256 := by
    rw [hd, cf_u_add] <;> rw [show (8 : Int32) = nI 8 from rfl, cf_u_sr c 8 (by decide)]
    exact h6.2.2.1
  have ue : cf_u e = cf_u d + cf_u d / 65536 := by
    rw [he, cf_u_add] <;> rw [show (16 : Int32) = nI 16 from rfl, cf_u_sr d 16 (by decide)]
    rw [ud]; exact h6.2.2.2
  have uf : cf_u f = cf_u e + cf_u e / 4294967296 := by
    rw [hf, cf_u_add] <;> rw [show (32 : Int32) = nI 32 from rfl, cf_u_sr e 32 (by decide)]
    rw [ue, ud]; exact h6.2.1
  have hpop : cf_u f % 128 = cf_pop x := by
    rw [uf, ue, ud, h6.1]
    simp only [cf_p3b]
    unfold cf_pop
    rw [show 64 = 8 * 7 + 8 from rfl, cf_sum_add, show 8 * 7 = 8 * 6 + 8 from rfl, cf_sum_add, show 8 * 6 = 8 * 5 + 8 from rfl, cf_sum_add, show 8 * 5 = 8 * 4 + 8 from rfl, cf_sum_add, show 8 * 4 = 8 * 3 + 8 from rfl, cf_sum_add, show 8 * 3 = 8 * 2 + 8 from rfl, cf_sum_add, show 8 * 2 = 8 * 1 + 8 from rfl, cf_sum_add, show 8 * 1 = 8 * 0 + 8 from rfl, cf_sum_add]
    rw [show cf_sum (fun q => bif cf_has x q then 1 else 0) (8 * 0) = 0 from rfl]
    simp only [Nat.mul_zero, Nat.zero_add, Nat.mul_one]
  apply Int32.toBitVec_inj.mp
  rw [Int32.toBitVec_and, cf_nbv]
  apply BitVec.eq_of_toNat_eq
  rw [BitVec.toNat_and]
  have e32 : f.toInt32.toBitVec.toNat = cf_u f % 2 ^ 32 := by
    rw [Int64.toBitVec_toInt32, BitVec.signExtend_eq_setWidth_of_le _ (by decide), BitVec.toNat_setWidth]; rfl
  rw [e32, show (127 : Int32).toBitVec.toNat = 2 ^ 7 - 1 from rfl, Nat.and_two_pow_sub_one_eq_mod, ← hpop, BitVec.toNat_ofNat]
  have g : ∀ y : Nat, y % 2 ^ 32 % 2 ^ 7 = y % 128 % 2 ^ 32 := by
    clear m1 m2 m3 hx k1 ua hp2 hm1 ub uc hq h6 ud ue uf hpop e32
    intro y; omega
  exact g _
