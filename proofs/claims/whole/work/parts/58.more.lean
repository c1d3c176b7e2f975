/-! A few more rules. -/
section RXO
variable {m pc L j : Nat} {t : List (Nat × Nat)} {hi : Nat → Nat → Int32} {hl : Nat → Nat → Int64} {v : Nat → Nat → Option Nat} {ls st : List Value} {Q : Option Value → rx_H → Prop}
theorem rx_ck {i a n : Nat} (h : (rx_sh L t)[i]? = some (a, n)) : rx_kind (rx_hp L t hi hl v) i = a := (rx_vi (rx_hp L t hi hl v) i h).1
theorem rx_cle {i a n : Nat} (h : (rx_sh L t)[i]? = some (a, n)) : rx_len (rx_hp L t hi hl v) i = n := (rx_vi (rx_hp L t hi hl v) i h).2
theorem rx_mayc {h : rx_H} {i : Nat} {As rest : List Value} {st : List Value} (hn : Nat.ble (rx_na j) st.length = true) (h1 : Nat.ble (rx_cat rest) 8 = true) (h2 : Nat.ble (rx_sl2 (.ref i :: As)).length (rx_m j).2.2.1 = true) (h3 : (rx_m j).2.2.2.2.2.1 = 1) (hk : rx_kind h i = (rx_m j).2.2.2.2.2.2.1) (h0 : 0 < i) : (Nat.ble (rx_na j) st.length && rx_may j (.ref i :: As) rest h) = true := by
  unfold rx_may
  rw [hn, h1, h2, h3]
  show (true && (true && true && (Nat.beq (rx_kind h i) (rx_m j).2.2.2.2.2.2.1 && Nat.blt 0 i))) = true
  rw [hk, Nat.beq_refl, show Nat.blt 0 i = true from Nat.ble_eq_true_of_le h0]
  rfl
/-- a reference field that changes, of a cell known by its number -/
theorem rx_w_pr {f i : Nat} {x : Option Nat} (hP : rx_P m pc = some (.putfield f)) (hs : rx_is (rx_hp L t hi hl v) i (f / 64) (f % 64) = true) (hk : rx_kd (rx_ty (f / 64) (f % 64)) = 2) (hf : rx_fixd i (f % 64) = none) (k : rx_aw m (pc + 3) ls st (rx_hp L t hi hl (rx_u v i (f % 64) x)) Q) : rx_aw m pc ls (va_rf x :: .ref i :: st) (rx_hp L t hi hl v) Q := by
  refine rx_aw_ex hP (g := (pc + 3, ls, st, rx_sr (rx_hp L t hi hl v) i (f % 64) x)) ?_ (by dsimp only; rw [rx_hp_sr hf]; exact k)
  cases x <;>
  · show (bif rx_is (rx_hp L t hi hl v) i (f / 64) (f % 64) then _ else none) = _
    rw [hs, cond_true, hk]
    rfl
end RXO
