/-! few: findToGo, prepare (class). -/
/-- the least n below N at which a square is reached -/
def cf_hqn (fl : Nat → Int64) (q N : Nat) : Nat := if cf_ff (fun n => cf_has (fl n) q) N = 0 then 1000000 else cf_ff (fun n => cf_has (fl n) q) N - 1
theorem cf_hqn_s {fl : Nat → Int64} {q N : Nat} (hN : N < 64) : cf_hqn fl q (N + 1) = if cf_has (fl N) q = true ∧ cf_hqn fl q N = 1000000 then N else cf_hqn fl q N := by
  have le := cf_ff_le (fun n => cf_has (fl n) q) N
  unfold cf_hqn
  rw [cf_ff]
  by_cases z : cf_ff (fun n => cf_has (fl n) q) N = 0
  · rw [if_pos z, if_pos z]
    cases e : cf_has (fl N) q with
    | true =>
      have e2 : (if (bif true then N + 1 else 0) = 0 then 1000000 else (bif true then N + 1 else 0) - 1) = N := by
        show (if N + 1 = 0 then 1000000 else N + 1 - 1) = N
        rw [if_neg (by omega)]; omega
      have e3 : (if true = true ∧ 1000000 = 1000000 then N else 1000000) = N := if_pos ⟨rfl, rfl⟩
      rw [e2, e3]
    | false =>
      have e3 : (if false = true ∧ 1000000 = 1000000 then N else 1000000) = 1000000 := if_neg (fun q => Bool.noConfusion q.1)
      rw [e3]; rfl
  · rw [if_neg z, if_neg z, if_neg (by omega)]
section RXE
variable {L : Nat} {hl : Nat → Nat → Int64} {v : Nat → Nat → Option Nat}
variable {RI : Int32 → (Nat → Nat → Int32) → (Nat → Nat → Int64) → (Nat → Nat → Option Nat) → Prop}
variable {RL : Int64 → (Nat → Nat → Int32) → (Nat → Nat → Int64) → (Nat → Nat → Option Nat) → Prop}
variable {RV : (Nat → Nat → Int32) → (Nat → Nat → Int64) → (Nat → Nat → Option Nat) → Prop}
theorem c130 {hi0 : Nat → Nat → Int32} {S : cf_S} (X : cf_XR S hi0 hl) (K0 : cf_Sk S hi0) (hn : cf_rk S 64 ≤ 20) {u : Nat → Nat} {c i : Nat} (hi3 : i < 3) (W0 : ∀ p, p < cf_rk S 64 → hi0 137 (i * 21 + p) = nI 1000000)
    (k : ∀ hi2, (∀ a b, ¬ (a = 137 ∧ i * 21 ≤ b ∧ b < i * 21 + cf_rk S 64) → hi2 a b = hi0 a b) → (∀ p, p < cf_rk S 64 → hi2 137 (i * 21 + p) = nI (cf_hq (cf_fl S u c) (cf_sk S p))) → RV hi2 hl v) :
    rx_CV L rx_tr 130 [.ref 134, .int (nI i), .long (cf_bt (S 5 c - 1) &&& cf_of (cf_oq S u c)), .long (cf_of (cf_oq S u c))] hi0 hl v RV := by
  have V := X.1.1
  have K1 := X.1.2.1
  have K3 := X.1.2.2.2.1
  have l6 : ∀ d N, N + d = 64 → ∀ hi : Nat → Nat → Int32, (∀ a b, ¬ (a = 137 ∧ i * 21 ≤ b ∧ b < i * 21 + cf_rk S 64) → hi a b = hi0 a b) → (∀ p, p < cf_rk S 64 → hi 137 (i * 21 + p) = nI (cf_hqn (cf_fl S u c) (cf_sk S p) N)) → rx_aw 130 6 [.ref 134, .int (nI i), .long (cf_bt (S 5 c - 1) &&& cf_of (cf_oq S u c)), rx_no, .long (cf_of (cf_oq S u c)), rx_no, .long (cf_fl S u c N), rx_no, .int (nI N), rx_no, rx_no] [] (rx_hp L rx_tr hi hl v) (fun r h2 => r = none ∧ rx_ok2 L rx_tr h2 RV) := by
    intro d
    induction d with
    | zero =>
      intro N hNd hi F W
      have hN : N = 64 := by omega
      refine w130_findToGo_6 ⟨fun _ => c_retV (k hi F (fun p hp => ?_)), fun g => absurd ?_ g⟩
      · rw [W p hp, hN]; rfl
      · rw [hN]; decide
    | succ d ih =>
      intro N hNd hi F W
      refine w130_findToGo_6 ⟨fun g => ?_, fun _ => ?_⟩
      · rw [show (64 : Int32) = nI 64 from rfl, cf_nle (by omega) (by omega)] at g; omega
      have l16 : ∀ d2 p, p + d2 = cf_rk S 64 → ∀ hi : Nat → Nat → Int32, (∀ a b, ¬ (a = 137 ∧ i * 21 ≤ b ∧ b < i * 21 + cf_rk S 64) → hi a b = hi0 a b) → (∀ p', p' < cf_rk S 64 → hi 137 (i * 21 + p') = nI (cf_hqn (cf_fl S u c) (cf_sk S p') (if p' < p then N + 1 else N))) → rx_aw 130 16 [.ref 134, .int (nI i), .long (cf_bt (S 5 c - 1) &&& cf_of (cf_oq S u c)), rx_no, .long (cf_of (cf_oq S u c)), rx_no, .long (cf_fl S u c N), rx_no, .int (nI N), .int (nI p), rx_no] [] (rx_hp L rx_tr hi hl v) (fun r h2 => r = none ∧ rx_ok2 L rx_tr h2 RV) := by
        intro d2
        induction d2 with
        | zero =>
          intro p hpd hi F W
          have X' := cf_A_XR X (hi2 := hi) (hl2 := hl) (fun a b _ _ => F a b (by omega)) (fun _ _ _ _ => rfl)
          refine w130_findToGo_16 ⟨fun _ => c78 X'.1.2.1 K3 (cf_fld_in (cf_of_in V) N) ?_, fun g => absurd ?_ g⟩
          · rw [show nI N + 1 = nI (N + 1) from nI_add N 1]
            refine ih (N + 1) (by omega) hi F (fun p' hp' => ?_)
            rw [W p' hp', if_pos (by omega)]
          · rw [F 134 10 (by omega), K0.1, cf_nle (by omega) (by omega)]; omega
        | succ d2 ih2 =>
          intro p hpd hi F W
          have K := cf_Sk_ext (hi2 := hi) K0 (fun a b q1 q2 => F a b (by omega))
          obtain ⟨s1, s2, s3⟩ := cf_sk_ok (S := S) (k := p) (by omega)
          have at_ := cf_Sk_at K (p := p) (by omega)
          have cur := W p (by omega)
          rw [if_neg (Nat.lt_irrefl p)] at cur
          have hs := cf_hqn_s (fl := cf_fl S u c) (q := cf_sk S p) (N := N) (by omega)
          have bd : cf_hqn (cf_fl S u c) (cf_sk S p) N < 2 ^ 31 := by
            have := cf_ff_le (fun n => cf_has (cf_fl S u c n) (cf_sk S p)) N
            unfold cf_hqn; split <;> omega
          have ej : nI i * 21 + nI p = nI (i * 21 + p) := by rw [show (21 : Int32) = nI 21 from rfl, cf_nmul, nI_add]
          have nx : ∀ hi' : Nat → Nat → Int32, (∀ a b, ¬ (a = 137 ∧ b = i * 21 + p) → hi' a b = hi a b) → hi' 137 (i * 21 + p) = nI (cf_hqn (cf_fl S u c) (cf_sk S p) (N + 1)) → rx_aw 130 16 [.ref 134, .int (nI i), .long (cf_bt (S 5 c - 1) &&& cf_of (cf_oq S u c)), rx_no, .long (cf_of (cf_oq S u c)), rx_no, .long (cf_fl S u c N), rx_no, .int (nI N), .int (nI p + 1), rx_no] [] (rx_hp L rx_tr hi' hl v) (fun r h2 => r = none ∧ rx_ok2 L rx_tr h2 RV) := fun hi' F' e' => by
            rw [show nI p + 1 = nI (p + 1) from nI_add p 1]
            refine ih2 (p + 1) (by omega) hi' (fun a b q => (F' a b (by omega)).trans (F a b q)) (fun p' hp' => ?_)
            by_cases z : p' = p
            · subst z; rw [if_pos (by omega)]; exact e'
            · rw [F' _ _ (by omega), W p' hp']
              by_cases z2 : p' < p
              · rw [if_pos z2, if_pos (by omega)]
              · rw [if_neg z2, if_neg (by omega)]
          refine w130_findToGo_16 ⟨fun g => ?_, fun _ => ⟨p, rfl, by omega, ?_⟩⟩
          · rw [K.1, cf_nle (by omega) (by omega)] at g; omega
          rw [at_]
          refine c9 s1 ?_
          rw [cf_cmp0, cf_ab s1, ej]
          refine ⟨fun g => nx hi (fun _ _ _ => rfl) ?_, fun g => ⟨i * 21 + p, rfl, by omega, fun g2 => ⟨i * 21 + p, rfl, by omega, nx _ (fun a b q => cf_ru_ne (by omega)) ?_⟩, fun g2 => nx hi (fun _ _ _ => rfl) ?_⟩⟩
          · rw [cur, hs, g, if_neg (fun q => Bool.noConfusion q.1)]
          · rw [cur, show (1000000 : Int32) = nI 1000000 from rfl, nI_eq bd (by omega)] at g2
            rw [cf_not_true, Classical.not_not] at g
            rw [cf_ru_eq, hs, if_pos ⟨g, g2⟩]
          · rw [cur, show (1000000 : Int32) = nI 1000000 from rfl, nI_eq bd (by omega)] at g2
            rw [cur, hs, if_neg (fun q => g2 q.2)]
      exact l16 (cf_rk S 64) 0 (by omega) hi F (fun p' hp' => by rw [if_neg (by omega)]; exact W p' hp')
  refine w130_findToGo (l6 64 0 (by omega) hi0 (fun _ _ _ => rfl) (fun p hp => by rw [W0 p hp]; rfl))
end RXE
