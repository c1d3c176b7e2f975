section RXE
variable {L : Nat} {t : List (Nat × Nat)} {hi : Nat → Nat → Int32} {hl : Nat → Nat → Int64} {v : Nat → Nat → Option Nat}
variable {RL : Int64 → (Nat → Nat → Int32) → (Nat → Nat → Int64) → (Nat → Nat → Option Nat) → Prop}
variable {RV : (Nat → Nat → Int32) → (Nat → Nat → Int64) → (Nat → Nat → Option Nat) → Prop}
theorem c192 {n m j : Nat} {st d : Nat → Nat} (hn : hi 90 6 = nI n) (h6 : n ≤ 6) (hmm : hi 90 21 = nI m) (hm : m ≤ 12) (hj : j < 402) (A : ∀ c, c < n → hi 101 (402 * c + j) = nI (st c % 64) ∧ hi 103 (402 * c + j) = oI (st c / 256) ∧ st c < 2 ^ 20)
    (D0 : j = 0 → ∀ s, s < m → hi 107 s = nI (d s)) (D1 : 0 < j → ∀ s, s < m → hi 108 (402 * s + (j - 1)) = nI (d s))
    (k : ∀ hi2 : Nat → Nat → Int32, (∀ a b, ¬ (a = 108 ∧ ∃ s, s < m ∧ b = 402 * s + j) → hi2 a b = hi a b) → (∀ s, s < m → hi2 108 (402 * s + j) = nI (cf_car st s (d s) n)) → RV hi2 hl v) : rx_CV L t 192 [.ref 90, .int (nI j)] hi hl v RV := by
  refine w192_placeShelves_r ?_
  have outer : ∀ e i, i + e = m → ∀ hi2 : Nat → Nat → Int32, (∀ a b, ¬ (a = 108 ∧ ∃ s, s < m ∧ b = 402 * s + j) → hi2 a b = hi a b) → (∀ s, s < i → hi2 108 (402 * s + j) = nI (cf_car st s (d s) n)) →
      rx_aw 192 2 [.ref 90, .int (nI j), .int (nI i), rx_no, rx_no] [] (rx_hp L t hi2 hl v) (fun r h2 => r = none ∧ rx_ok2 L t h2 RV) := by
    intro e
    induction e with
    | zero =>
      intro i hi0 hi2 F G
      have : i = m := by omega
      subst this
      refine w192_placeShelves_r_2 ⟨fun _ => c_retV (k hi2 F G), fun g => absurd ?_ g⟩
      rw [F 90 21 (by omega), hmm]; exact nI_le (Nat.le_refl _) (by omega)
    | succ e ih =>
      intro i hi0 hi2 F G
      have e21 : hi2 90 21 = nI m := (F 90 21 (by omega)).trans hmm
      -- the carts
      have inner : ∀ f c, c + f = n → ∀ hi3 : Nat → Nat → Int32, (∀ a b, ¬ (a = 108 ∧ ∃ s, s < m ∧ b = 402 * s + j) → hi3 a b = hi a b) → (∀ s, s < i → hi3 108 (402 * s + j) = nI (cf_car st s (d s) n)) → hi3 108 (402 * i + j) = nI (cf_car st i (d i) c) →
          rx_aw 192 48 [.ref 90, .int (nI j), .int (nI i), .int (nI (402 * i + j)), .int (nI c)] [] (rx_hp L t hi3 hl v) (fun r h2 => r = none ∧ rx_ok2 L t h2 RV) := by
        intro f
        induction f with
        | zero =>
          intro c hc hi3 F3 G3 H3
          have : c = n := by omega
          subst this
          refine w192_placeShelves_r_48 ⟨fun _ => ?_, fun g => absurd ?_ g⟩
          · rw [nI_1]
            refine ih (i + 1) (by omega) hi3 F3 (fun s hs => ?_)
            by_cases e : s = i
            · subst e; exact H3
            · exact G3 s (by omega)
          · rw [F3 90 6 (by omega), hn]; exact nI_le (Nat.le_refl _) (by omega)
        | succ f ih2 =>
          intro c hc hi3 F3 G3 H3
          have hA := A c (by omega)
          have e103 : hi3 103 (402 * c + j) = oI (st c / 256) := (F3 _ _ (by omega)).trans hA.2.1
          have e101 : hi3 101 (402 * c + j) = nI (st c % 64) := (F3 _ _ (by omega)).trans hA.1
          refine w192_placeShelves_r_48 ⟨fun g => ?_, fun _ => ⟨402 * c + j, cf_402, by omega, fun g => ⟨402 * c + j, cf_402, by omega, 402 * i + j, rfl, by omega, ?_⟩, fun g => ?_⟩⟩
          · rw [F3 90 6 (by omega), hn] at g; exact absurd g (nI_ge (by omega) (by omega))
          · rw [e103, cf_oneq (by omega) (by omega)] at g
            rw [nI_1, e101]
            refine ih2 (c + 1) (by omega) _ (fun a b hab => ?_) (fun s hs => ?_) ?_
            · rw [cf_ru_ne (fun q => hab ⟨q.1, i, by omega, q.2⟩)]; exact F3 a b hab
            · rw [cf_ru_ne (by omega)]; exact G3 s hs
            · rw [cf_ru_eq, cf_car, if_pos g]
          · rw [e103, cf_oneq (by omega) (by omega)] at g
            rw [nI_1]
            refine ih2 (c + 1) (by omega) hi3 F3 G3 ?_
            rw [cf_car, if_neg g]; exact H3
      have start : ∀ x : Int32, x = nI (d i) → rx_aw 192 48 [.ref 90, .int (nI j), .int (nI i), .int ((402 : Int32) * nI i + nI j), .int (0 : Int32)] [] (rx_hp L t (rx_u hi2 108 (402 * i + j) x) hl v) (fun r h2 => r = none ∧ rx_ok2 L t h2 RV) := by
        intro x hx
        rw [cf_402]
        refine inner n 0 (by omega) _ (fun a b hab => ?_) (fun s hs => ?_) ?_
        · rw [cf_ru_ne (fun q => hab ⟨q.1, i, by omega, q.2⟩)]; exact F a b hab
        · rw [cf_ru_ne (by omega)]; exact G s hs
        · rw [cf_ru_eq, hx, cf_car]
      refine w192_placeShelves_r_2 ⟨fun g => ?_, fun _ => ⟨fun g => ⟨i, rfl, by omega, 402 * i + j, cf_402, by omega, start _ ?_⟩, fun g => ⟨402 * i + (j - 1), ?_, by omega, 402 * i + j, cf_402, by omega, start _ ?_⟩⟩⟩
      · rw [e21] at g; exact absurd g (nI_ge (by omega) (by omega))
      · have : j = 0 := by
          rw [show (0 : Int32) = nI 0 from rfl, nI_eq (by omega) (by decide)] at g; exact g
        rw [F 107 i (by omega)]; exact D0 this i (by omega)
      · have : ¬ j = 0 := by
          rw [show (0 : Int32) = nI 0 from rfl, nI_eq (by omega) (by decide)] at g; exact g
        rw [cf_402, show (1 : Int32) = nI 1 from rfl, cf_nsub (by omega)]; congr 1; omega
      · have : ¬ j = 0 := by
          rw [show (0 : Int32) = nI 0 from rfl, nI_eq (by omega) (by decide)] at g; exact g
        rw [F 108 _ (fun q => by obtain ⟨_, s, hs, q⟩ := q; omega)]; exact D1 (by omega) i (by omega)
  exact outer m 0 (by omega) hi (fun _ _ _ => rfl) (fun s hs => by omega)
theorem c196 {S : cf_S} (V : cf_V S) (M : cf_M S hi) {ck nl : Nat} {st sp : Nat → Nat} {j c : Nat} (hj : j < 402) (hc : c < S 0 2) (h101 : hi 101 (402 * c + j) = nI (st c % 64)) (h102 : hi 102 (402 * c + j) = nI (st c / 64 % 4)) (hv : cf_vs (S 0 0) (S 0 1) (cf_two (S 3 c)) (st c))
    (hmd : j < 401 → hi 104 (402 * c + j) = cf_B (cf_nr S ck nl st sp j c).isSome) (k : RL (cf_tq (S 0 0) (S 0 1) (S 3 c) (st c) (cf_mt S c j)) hi hl v) : rx_CL L t 196 [.ref 90, .int (nI c), .int (nI j)] hi hl v RL := by
  have h6 := V.2.2.1
  have hkd := (V.2.2.2.2.2.2.1 c hc).1
  have h4 := (V.2.2.2.2.2.2.1 c hc).2.2.2.1
  have hmt := cf_mt_lt V hc j
  have hC := M.2.2.2.2.2.1 c hc
  have hqd : st c % 64 + 64 * (st c / 64 % 4) = st c % 256 := by omega
  refine w196_turned_r (c194 V M hc (by omega) ⟨fun g => c_retL ?_, fun g => ⟨c, rfl, by omega, ?_⟩⟩)
  · rw [nI_1, show (402 : Int32) = nI 402 from rfl, nI_leI (by decide) (by omega)] at g
    have e : cf_mt S c j = 0 := by unfold cf_mt; rw [if_neg (by omega)]
    unfold cf_tq at k
    rw [e, decide_eq_false (show ¬ 0 = 3 by decide), decide_eq_false (show ¬ 0 = 4 by decide), Bool.or_false, Bool.and_false] at k; exact k
  · rw [nI_1, show (402 : Int32) = nI 402 from rfl, nI_leI (by decide) (by omega)] at g
    rw [hC.1]
    unfold cf_tq at k
    refine c186 hkd (by omega) ⟨fun g2 => c_retL ?_, fun g2 => ⟨402 * c + j, cf_402, by omega, fun g3 => c_retL ?_, fun g3 => ⟨402 * c + j, cf_402, by omega, 402 * c + j, cf_402, by omega, ?_⟩⟩⟩
    · rw [cf_B_eq g2] at k; exact k
    · rw [cf_B_ne g2, cond_true] at k
      rw [hmd (by omega)] at g3
      have hn := cf_B_eq g3
      have h2 := cf_B_ne g2
      rw [Bool.and_eq_true, Bool.or_eq_true, decide_eq_true_iff, decide_eq_true_iff] at h2
      cases e : cf_tn (S 0 0) (S 0 1) (st c) (cf_to (st c) (cf_mt S c j)) with
      | none => unfold cf_four at k; rw [e] at k; exact k
      | some x =>
        obtain ⟨b, n, x⟩ := x
        unfold cf_nr cf_aft cf_mv at hn
        rw [if_pos (by omega), if_neg (by omega), h2.1, cond_true, if_neg (by omega), if_neg (by omega), e] at hn
        exact Bool.noConfusion (show true = false from hn)
    · rw [cf_B_ne g2, cond_true] at k
      rw [h101, h102]
      refine c185 M.1 hv.1 (by omega) (by omega) (c_retL ?_)
      rw [hqd, cf_four_m]; exact k
end RXE
