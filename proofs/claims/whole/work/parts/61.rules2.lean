/-! More rules: switches, System.arraycopy, storing references. -/
/-- the Trio's cells -/
def rx_tr : List (Nat × Nat) := [(10, 11), (14, 20), (14, 315), (14, 63), (14, 3), (14, 3), (14, 9261), (14, 9269), (14, 9269)]
section RXQ
variable {m pc L : Nat} {t : List (Nat × Nat)} {hi : Nat → Nat → Int32} {hl : Nat → Nat → Int64} {v : Nat → Nat → Option Nat} {ls st : List Value} {Q : Option Value → rx_H → Prop} {h : rx_H} {x : Int32}
theorem rx_aw_tsw {d lo up : Int} {os : Array Int} {p2 : Nat} (hP : rx_P m pc = some (.tableswitch d lo up os)) (ht : (if x.toInt < lo ∨ up < x.toInt then rx_to pc d else rx_to pc (os.toList.getD (x.toInt - lo).toNat d)) = p2) (k : rx_aw m p2 ls st h Q) : rx_aw m pc ls (.int x :: st) h Q :=
  rx_aw_ex hP (g := (p2, ls, st, h)) (by rw [← ht]; rfl) k
theorem rx_tsw_d {lo up : Int} {a b : Nat} (hx : ∀ i : Nat, i < (up + 1 - lo).toNat → ¬ x.toInt = lo + i) (hlo : lo ≤ up + 1) : (if x.toInt < lo ∨ up < x.toInt then a else b) = a := by
  apply if_pos
  by_cases h1 : x.toInt < lo
  · exact Or.inl h1
  · by_cases h2 : up < x.toInt
    · exact Or.inr h2
    · exact absurd (by omega) (hx (x.toInt - lo).toNat (by omega))
theorem rx_aw_lsw {d : Int} {ps : Array (Int × Int)} {p2 : Nat} (hP : rx_P m pc = some (.lookupswitch d ps)) (ht : rx_to pc (Op.lookupswitch.offset ps.toList d x.toInt) = p2) (k : rx_aw m p2 ls st h Q) : rx_aw m pc ls (.int x :: st) h Q :=
  rx_aw_ex hP (g := (p2, ls, st, h)) (by rw [← ht]; rfl) k
theorem rx_ne_toInt {c : Int32} {z : Int} (hz : c.toInt = z) (hx : ¬ x = c) : ¬ x.toInt = z := fun e => hx (Int32.toInt_inj.mp (by rw [e, hz]))
theorem rx_cpo_ok {s d a b n ls' ld : Nat} {g : Nat} (hks : rx_kind h s = g) (hkd : rx_kind h d = g) (hg : g = 13 ∨ g = 14 ∨ g = 15) (hs : 0 < s) (hd : 0 < d) (hls : rx_len h s = ls') (hld : rx_len h d = ld) (h1 : a + n ≤ ls') (h2 : b + n ≤ ld) (hb1 : ls' < 2 ^ 31) (hb2 : ld < 2 ^ 31)
    (hf : g = 13 → ∀ i, i < n → fits .byte (.int (h.2.1 s (a + i))) = true) : rx_cpo h s d (nI a) (nI b) (nI n) = true := by
  unfold rx_cpo
  rw [nI_clamp (by omega), nI_clamp (by omega), nI_clamp (by omega), hks, hkd, hls, hld]
  have e1 : Nat.blt 0 s = true := Nat.ble_eq_true_of_le hs
  have e2 : Nat.blt 0 d = true := Nat.ble_eq_true_of_le hd
  have e3 : Nat.ble (a + n) ls' = true := Nat.ble_eq_true_of_le h1
  have e4 : Nat.ble (b + n) ld = true := Nat.ble_eq_true_of_le h2
  have e5 : decide (¬ nI a < 0) = true := decide_eq_true (nI_pos (by omega))
  have e6 : decide (¬ nI b < 0) = true := decide_eq_true (nI_pos (by omega))
  have e7 : decide (¬ nI n < 0) = true := decide_eq_true (nI_pos (by omega))
  rw [e1, e2, e3, e4, e5, e6, e7, Nat.beq_refl]
  rcases hg with rfl | rfl | rfl
  · have : ((List.range n).all fun i => fits (bif Nat.beq 13 13 then FieldType.byte else .boolean) (.int (h.2.1 s (a + i)))) = true := by
      rw [List.all_eq_true]
      intro i hi
      exact hf rfl i (List.mem_range.mp hi)
    rw [this]; rfl
  · rfl
  · rfl
/-- System.arraycopy between rows of bytes or ints, and between rows of longs -/
theorem rx_aw_cpyI {s d ls' ld : Nat} {g : Nat} {xa xb xn : Int32} (hP : rx_P m pc = some (.invokestatic 0)) (hst : Nat.ble (rx_cat st) 8 = true) (hks : rx_kind (rx_hp L t hi hl v) s = g) (hkd : rx_kind (rx_hp L t hi hl v) d = g) (hg : g = 13 ∨ g = 14) (hs : 0 < s) (hd : 0 < d) (hls : rx_len (rx_hp L t hi hl v) s = ls') (hld : rx_len (rx_hp L t hi hl v) d = ld) (hb1 : ls' < 2 ^ 31) (hb2 : ld < 2 ^ 31)
    (k : ∃ a b n : Nat, xa = nI a ∧ xb = nI b ∧ xn = nI n ∧ a + n ≤ ls' ∧ b + n ≤ ld ∧ (g = 13 → ∀ i, i < n → fits .byte (.int (hi s (a + i))) = true) ∧ rx_aw m (pc + 3) ls st (rx_hp L t (rx_row hi d (va_cpy (hi s) (hi d) a b n)) hl v) Q) :
    rx_aw m pc ls (.int xn :: .int xb :: .ref d :: .int xa :: .ref s :: st) (rx_hp L t hi hl v) Q := by
  obtain ⟨a, b, n, rfl, rfl, rfl, h1, h2, hf, k⟩ := k
  refine rx_aw_one (g := (pc + 3, ls, st, rx_hp L t (rx_row hi d (va_cpy (hi s) (hi d) a b n)) hl v)) ?_ k
  unfold rx_one
  rw [hP]
  show (bif Nat.ble (rx_cat st) 8 && rx_cpo (rx_hp L t hi hl v) s d (nI a) (nI b) (nI n) then _ else none) = _
  rw [hst, rx_cpo_ok hks hkd (by rcases hg with g | g <;> simp [g]) hs hd hls hld h1 h2 hb1 hb2 hf]
  rw [nI_clamp (by omega), nI_clamp (by omega), nI_clamp (by omega)]
  unfold rx_cpy
  rw [hks]
  rcases hg with rfl | rfl <;> rfl
theorem rx_aw_cpyL {s d ls' ld : Nat} {xa xb xn : Int32} (hP : rx_P m pc = some (.invokestatic 0)) (hst : Nat.ble (rx_cat st) 8 = true) (hks : rx_kind (rx_hp L t hi hl v) s = 15) (hkd : rx_kind (rx_hp L t hi hl v) d = 15) (hs : 0 < s) (hd : 0 < d) (hls : rx_len (rx_hp L t hi hl v) s = ls') (hld : rx_len (rx_hp L t hi hl v) d = ld) (hb1 : ls' < 2 ^ 31) (hb2 : ld < 2 ^ 31)
    (k : ∃ a b n : Nat, xa = nI a ∧ xb = nI b ∧ xn = nI n ∧ a + n ≤ ls' ∧ b + n ≤ ld ∧ rx_aw m (pc + 3) ls st (rx_hp L t hi (rx_row hl d (va_cpy (hl s) (hl d) a b n)) v) Q) :
    rx_aw m pc ls (.int xn :: .int xb :: .ref d :: .int xa :: .ref s :: st) (rx_hp L t hi hl v) Q := by
  obtain ⟨a, b, n, rfl, rfl, rfl, h1, h2, k⟩ := k
  refine rx_aw_one (g := (pc + 3, ls, st, rx_hp L t hi (rx_row hl d (va_cpy (hl s) (hl d) a b n)) v)) ?_ k
  unfold rx_one
  rw [hP]
  show (bif Nat.ble (rx_cat st) 8 && rx_cpo (rx_hp L t hi hl v) s d (nI a) (nI b) (nI n) then _ else none) = _
  rw [hst, rx_cpo_ok hks hkd (by simp) hs hd hls hld h1 h2 hb1 hb2 (fun e => by cases e)]
  rw [nI_clamp (by omega), nI_clamp (by omega), nI_clamp (by omega)]
  unfold rx_cpy
  rw [hks]
  rfl
/-- a cart, or null, into the LINE -/
theorem rx_aw_lnN (hP : rx_P m pc = some .aastore) (k : ∃ j : Nat, x = nI j ∧ j < 40 ∧ rx_aw m (pc + 1) ls st (rx_hp L t hi hl (rx_u v 6 j none)) Q) : rx_aw m pc ls (.null :: .int x :: .ref 6 :: st) (rx_hp L t hi hl v) Q := by
  obtain ⟨j, rfl, hj, k⟩ := k
  refine rx_aw_ex hP (g := (pc + 1, ls, st, rx_sr (rx_hp L t hi hl v) 6 j none)) ?_ (by rw [rx_hp_sr rfl]; exact k)
  show (bif true && true && rx_in (nI j) 40 then some (pc + 1, ls, st, rx_sr (rx_hp L t hi hl v) 6 (nI j).toNatClampNeg none) else none) = _
  rw [rx_in_nI hj (by decide), nI_clamp (by omega)]
  rfl
theorem rx_aw_lnC {c : Nat} (hc : c < 6) (hP : rx_P m pc = some .aastore) (k : ∃ j : Nat, x = nI j ∧ j < 40 ∧ rx_aw m (pc + 1) ls st (rx_hp L t hi hl (rx_u v 6 j (some (rx_ct c)))) Q) : rx_aw m pc ls (.ref (rx_ct c) :: .int x :: .ref 6 :: st) (rx_hp L t hi hl v) Q := by
  obtain ⟨j, rfl, hj, k⟩ := k
  refine rx_aw_ex hP (g := (pc + 1, ls, st, rx_sr (rx_hp L t hi hl v) 6 j (some (rx_ct c)))) ?_ (by rw [rx_hp_sr rfl]; exact k)
  show (bif ((true && Nat.beq (rx_kind (rx_hp L t hi hl v) (rx_ct c)) 0) || (false && _)) && true && Nat.blt 0 (rx_ct c) && rx_in (nI j) 40 then some (pc + 1, ls, st, rx_sr (rx_hp L t hi hl v) 6 (nI j).toNatClampNeg (some (rx_ct c))) else none) = _
  rw [rx_in_nI hj (by decide), nI_clamp (by omega), rx_ck (rx_cart_s hc).1, show Nat.blt 0 (rx_ct c) = true from Nat.ble_eq_true_of_le (rx_ct_pos c)]
  rfl
end RXQ
