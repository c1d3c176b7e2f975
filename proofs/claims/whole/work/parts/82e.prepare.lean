/-! few: prepare (class). -/
def cf_sx (S : cf_S) (u : Nat → Nat) (i : Nat) : Nat := if u i = 0 then 20 else cf_rk S (S 9 (u i - 1) % 64)
def cf_Tb1 (g : Nat → Nat) (st : Nat → Nat → Nat → Nat) (hh : Nat → Nat → Nat) (hi : Nat → Nat → Int32) (i : Nat) : Prop := hi 138 i = oI (g i) ∧ (∀ p m, p < 20 → m < 5 → hi 136 ((i * 21 + p) * 5 + m) = oI (st i p m)) ∧ (∀ p, p ≤ 20 → hi 137 (i * 21 + p) = nI (hh i p))
/-- what prepare writes -/
def cf_fpr (i : Nat) (hi hi2 : Nat → Nat → Int32) : Prop := ∀ a b, ¬ (a = 138 ∧ b = i) → ¬ (a = 136 ∧ i * 105 ≤ b ∧ b < i * 105 + 105) → ¬ (a = 137 ∧ i * 21 ≤ b ∧ b < i * 21 + 21) → hi2 a b = hi a b
theorem cf_oq_m {S : cf_S} {hi : Nat → Nat → Int32} {hl : Nat → Nat → Int64} (X : cf_XR S hi hl) {u : Nat → Nat} {c : Nat} : (S 3 c = 1 → ((hl 7 2) &&& ((hl 7 10) ^^^ -1)) &&& (cf_sto S u ^^^ -1) = cf_of (cf_oq S u c)) ∧ (¬ S 3 c = 1 → (((hl 7 2) &&& ((hl 7 10) ^^^ -1)) &&& (cf_sto S u ^^^ -1)) &&& (cf_sq S 0 0 ^^^ -1) = cf_of (cf_oq S u c)) := by
  constructor
  · intro h
    apply cf_ext
    intro q hq
    rw [cf_hand, cf_fs_m X hq, cf_hnot, decide_eq_true hq, cf_of_has X.1.1]
    unfold cf_oq
    rw [decide_eq_true h, Bool.true_or, Bool.and_true, Bool.true_and]
  · intro h
    apply cf_ext
    intro q hq
    rw [cf_hand, cf_hand, cf_fs_m X hq, cf_hnot, cf_hnot, decide_eq_true hq, cf_of_has X.1.1]
    unfold cf_oq
    rw [decide_eq_false h, Bool.false_or, Bool.true_and, Bool.true_and]
section RXE
variable {L : Nat} {hl : Nat → Nat → Int64} {v : Nat → Nat → Option Nat}
variable {RI : Int32 → (Nat → Nat → Int32) → (Nat → Nat → Int64) → (Nat → Nat → Option Nat) → Prop}
variable {RL : Int64 → (Nat → Nat → Int32) → (Nat → Nat → Int64) → (Nat → Nat → Option Nat) → Prop}
variable {RV : (Nat → Nat → Int32) → (Nat → Nat → Int64) → (Nat → Nat → Option Nat) → Prop}
/-- the table of one cart's steps -/
theorem g127 {hi0 : Nat → Nat → Int32} {S : cf_S} (X : cf_XR S hi0 hl) (K0 : cf_Sk S hi0) {u : Nat → Nat} (W : cf_FW S u) {i : Nat} {x2 : Int32} {x3 : Int64} (hi3 : i < 3) (hu : ¬ u i = 0) (hs : cf_fs S (S 9 (u i - 1) % 64) = true)
    (k : ∀ hi2, cf_fpr i hi0 hi2 → cf_Tb1 (cf_gg S u) (cf_ss S u) (cf_hh S u) hi2 i → RI (nI (cf_sx S u i)) hi2 hl v) :
    ∀ d p, p + d = cf_rk S 64 → ∀ hi : Nat → Nat → Int32, cf_fpr i hi0 hi → hi 138 i = oI (cf_gg S u i) → (∀ p' m', p' < 20 → m' < 5 → hi 136 ((i * 21 + p') * 5 + m') = oI (if p' < p then cf_ss S u i p' m' else 0)) → (∀ p', p' < 20 → hi 137 (i * 21 + p') = nI 1000000) → hi 137 (i * 21 + 20) = nI 0 → rx_aw 127 151 [.ref 134, .int (nI i), .int x2, .long x3, rx_no, .ref (rx_ct (u i - 1)), .long (cf_of (cf_oq S u (u i - 1))), rx_no, .int (nI p), rx_no, rx_no, rx_no] [] (rx_hp L rx_tr hi hl v) (fun r h2 => ∃ z : Int32, r = some (.int z) ∧ rx_ok2 L rx_tr h2 (RI z)) := by
  have V := X.1.1
  have hwh := cf_V_wh V
  have h6 := V.2.2.1
  have hn := W.2.2.2.2.2.2.2
  have hui := W.1 i hi3
  have hc : u i - 1 < S 0 2 := by omega
  have h5 := (W.2.2.2.2.2.2.1 i hi3 (by omega)).2.2.1
  have hgl := cf_goal_lt V hc h5
  have XF : ∀ hi : Nat → Nat → Int32, cf_fpr i hi0 hi → cf_XR S hi hl := fun hi F => cf_A_XR X (fun a b _ _ => F a b (by omega) (by omega) (by omega)) (fun _ _ _ _ => rfl)
  have KF : ∀ hi : Nat → Nat → Int32, cf_fpr i hi0 hi → cf_Sk S hi := fun hi F => cf_Sk_ext K0 (fun a b _ _ => F a b (by omega) (by omega) (by omega))
  have CF : ∀ hi : Nat → Nat → Int32, cf_fpr i hi0 hi → hi (rx_ct (u i - 1)) 8 = nI (S 5 (u i - 1) - 1) ∧ hi (rx_ct (u i - 1)) 6 = nI (S 9 (u i - 1)) := fun hi F => by
    have := (XF hi F).1.2.2.2.2.1.2.2.1 _ hc
    refine ⟨?_, this.2.1⟩
    rw [this.2.2.2.1, ← cf_oS, show S 5 (u i - 1) - 1 + 1 = S 5 (u i - 1) by omega]
  intro d
  induction d with
  | zero =>
    intro p hpd hi F e1 W1 W2 W3
    have hp : p = cf_rk S 64 := by omega
    refine w127_prepare_151 (by omega) ⟨fun _ => ?_, fun g => absurd ?_ g⟩
    · rw [(CF hi F).1]
      refine c9 (by omega) (c130 (u := u) (c := u i - 1) (XF hi F) (KF hi F) hn hi3 (fun p' hp' => W2 p' (by omega)) (fun hi2 F2 W4 => ?_))
      have F' : cf_fpr i hi0 hi2 := fun a b q1 q2 q3 => (F2 a b (by omega)).trans (F a b q1 q2 q3)
      rw [(CF hi2 F').2]
      refine c8 (c129 (KF hi2 F') hn (Nat.mod_lt _ (by decide)) (c_retIe (k hi2 F' ⟨?_, fun p' m' hp' hm' => ?_, fun p' hp' => ?_⟩) ?_))
      · rw [F2 _ _ (by omega)]; exact e1
      · rw [F2 _ _ (by omega), W1 p' m' hp' hm']
        by_cases z : p' < p
        · rw [if_pos z]
        · rw [if_neg z]
          congr 1
          unfold cf_ss
          rw [if_pos (Or.inr (by omega))]
      · unfold cf_hh
        by_cases z : p' = 20
        · rw [if_pos z, z, F2 _ _ (by omega)]; exact W3
        · rw [if_neg z]
          by_cases z2 : p' < cf_rk S 64
          · rw [if_neg (by omega)]; exact W4 p' z2
          · rw [if_pos (Or.inr z2), F2 _ _ (by omega)]; exact W2 p' (by omega)
      · rw [if_pos hs, cf_oS]
        have lt := cf_rk_lt (Nat.mod_lt (S 9 (u i - 1)) (by decide : 0 < 64)) hs
        unfold cf_sx
        rw [if_neg hu]
        by_cases z : cf_rk S (S 9 (u i - 1) % 64) = 0
        · rw [z]; rfl
        · rw [if_pos]
          rw [cf_lt, nI_toInt (by omega), show (0 : Int32).toInt = 0 from rfl]; omega
    · rw [(KF hi F).1, cf_nle (by omega) (by omega)]; omega
  | succ d ih =>
    intro p hpd hi F e1 W1 W2 W3
    obtain ⟨s1, s2, s3⟩ := cf_sk_ok (S := S) (k := p) (by omega)
    have s4 := cf_fs_lt s2
    refine w127_prepare_151 (by omega) ⟨fun g => ?_, fun _ => ⟨(i * 21 + p) * 5, ?_, by omega, ?_⟩⟩
    · rw [(KF hi F).1, cf_nle (by omega) (by omega)] at g; omega
    · rw [show (21 : Int32) = nI 21 from rfl, cf_nmul, nI_add, show (5 : Int32) = nI 5 from rfl, cf_nmul]
    have in_ : ∀ d2 m, m + d2 = 5 → 1 ≤ m → ∀ hi : Nat → Nat → Int32, cf_fpr i hi0 hi → hi 138 i = oI (cf_gg S u i) → (∀ p' m', p' < 20 → m' < 5 → hi 136 ((i * 21 + p') * 5 + m') = oI (if p' < p ∨ (p' = p ∧ m' < m) then cf_ss S u i p' m' else 0)) → (∀ p', p' < 20 → hi 137 (i * 21 + p') = nI 1000000) → hi 137 (i * 21 + 20) = nI 0 → rx_aw 127 179 [.ref 134, .int (nI i), .int x2, .long x3, rx_no, .ref (rx_ct (u i - 1)), .long (cf_of (cf_oq S u (u i - 1))), rx_no, .int (nI p), .int (nI m), rx_no, rx_no] [] (rx_hp L rx_tr hi hl v) (fun r h2 => ∃ z : Int32, r = some (.int z) ∧ rx_ok2 L rx_tr h2 (RI z)) := by
      intro d2
      induction d2 with
      | zero =>
        intro m hmd hm hi F e1 W1 W2 W3
        have : m = 5 := by omega
        subst this
        refine w127_prepare_179 (by omega) ⟨fun _ => ?_, fun g => absurd (by decide) g⟩
        rw [show nI p + 1 = nI (p + 1) from nI_add p 1]
        refine ih (p + 1) (by omega) hi F e1 (fun p' m' hp' hm' => ?_) W2 W3
        rw [W1 p' m' hp' hm']
        by_cases z : p' < p + 1
        · rw [if_pos z, if_pos (by omega)]
        · rw [if_neg z, if_neg (by omega)]
      | succ d2 ih2 =>
        intro m hmd hm hi F e1 W1 W2 W3
        have XX := XF hi F
        have KK := KF hi F
        have nx : ∀ y : Int32, y = oI (cf_ss S u i p m) → rx_aw 127 179 [.ref 134, .int (nI i), .int x2, .long x3, rx_no, .ref (rx_ct (u i - 1)), .long (cf_of (cf_oq S u (u i - 1))), rx_no, .int (nI p), .int (nI m + 1), rx_no, rx_no] [] (rx_hp L rx_tr (rx_u hi 136 ((i * 21 + p) * 5 + m) y) hl v) (fun r h2 => ∃ z : Int32, r = some (.int z) ∧ rx_ok2 L rx_tr h2 (RI z)) := by
          intro y hy
          rw [show nI m + 1 = nI (m + 1) from nI_add m 1]
          refine ih2 (m + 1) (by omega) (by omega) _ (fun a b q1 q2 q3 => by rw [cf_ru_ne (by omega)]; exact F a b q1 q2 q3) (by rw [cf_ru_ne (by omega)]; exact e1) (fun p' m' hp' hm' => ?_) (fun p' hp' => by rw [cf_ru_ne (by omega)]; exact W2 p' hp') (by rw [cf_ru_ne (by omega)]; exact W3)
          by_cases z : p' = p ∧ m' = m
          · obtain ⟨rfl, rfl⟩ := z
            rw [cf_ru_eq, hy, if_pos (by omega)]
          · rw [cf_ru_ne (by omega), W1 p' m' hp' hm']
            by_cases z2 : p' < p ∨ (p' = p ∧ m' < m)
            · rw [if_pos z2, if_pos (by omega)]
            · rw [if_neg z2, if_neg (by omega)]
        have ej : ((nI i * 21 + nI p) * 5) + nI m = nI ((i * 21 + p) * 5 + m) := by
          rw [show (21 : Int32) = nI 21 from rfl, cf_nmul, nI_add, show (5 : Int32) = nI 5 from rfl, cf_nmul, nI_add]
        have mv : hi 10 (m * 256 + cf_sk S p) = oO (cf_mv (S 0 0) (S 0 1) false (cf_sk S p) m) := by
          have := (XX.1.2.2.1 (cf_sk S p) (by omega) (by rw [Nat.mod_eq_of_lt s1]; exact s4)).2.2.2.2.1 m (by omega)
          rw [Nat.mul_comm 256 m] at this; exact this
        have emv : cf_mv (S 0 0) (S 0 1) false (cf_sk S p) m = (cf_step (S 0 0) (S 0 1) (cf_sk S p) (m - 1)).map (fun q => q + 64 * (m - 1)) := by
          unfold cf_mv
          rw [if_neg (by omega), Nat.mod_eq_of_lt s1]; rfl
        rw [emv] at mv
        have ess : cf_ss S u i p m = match cf_step (S 0 0) (S 0 1) (cf_sk S p) (m - 1) with
            | none => 0
            | some q => if cf_oq S u (u i - 1) q = true then cf_rk S q + 1 else 0 := by
          unfold cf_ss
          rw [if_neg (by omega), if_neg (by omega)]
          rfl
        refine w127_prepare_179 (by omega) ⟨fun g => ?_, fun _ => ⟨p, rfl, by omega, m * 256 + cf_sk S p, ?_, by omega, ?_⟩⟩
        · rw [show (4 : Int32) = nI 4 from rfl, cf_lt, nI_toInt (by omega), nI_toInt (by omega)] at g; omega
        · rw [cf_Sk_at KK (by omega), show (256 : Int32) = nI 256 from rfl, cf_nmul, nI_add]
        rw [mv]
        cases es : cf_step (S 0 0) (S 0 1) (cf_sk S p) (m - 1) with
        | none =>
          rw [es] at ess
          have en : oO (Option.map (fun q => q + 64 * (m - 1)) none) = -1 := rfl
          rw [en]
          refine ⟨fun g => absurd g (by decide), fun _ => w9_bit ⟨fun g => absurd g (by decide), fun _ => c_retL ⟨fun _ => ⟨(i * 21 + p) * 5 + m, ej, by omega, nx _ (by rw [ess]; rfl)⟩, fun g => absurd ?_ g⟩⟩⟩
          rw [cf_cmp0]
          apply cf_ext
          intro q _
          rw [cf_hand, cf_h0]; rfl
        | some q =>
          rw [es] at ess
          have ess : cf_ss S u i p m = if cf_oq S u (u i - 1) q = true then cf_rk S q + 1 else 0 := ess
          have lq := cf_step_lt s4 es
          have eo : oO (Option.map (fun q => q + 64 * (m - 1)) (some q)) = nI (q + 64 * (m - 1)) := rfl
          rw [eo]
          refine ⟨fun _ => c8 ?_, fun g => absurd (nI_pos' (by omega)) g⟩
          rw [show (q + 64 * (m - 1)) % 64 = q by omega]
          refine c9 (by omega) ?_
          rw [cf_cmp0, Int64.and_comm, cf_ab (by omega), cf_of_has V]
          refine ⟨fun g => ⟨(i * 21 + p) * 5 + m, ej, by omega, nx _ ?_⟩, fun g => c129 KK hn (by omega) ⟨(i * 21 + p) * 5 + m, ej, by omega, nx _ ?_⟩⟩
          · rw [ess, g, if_neg (fun z => Bool.noConfusion z)]; rfl
          · rw [cf_not_true, Classical.not_not] at g
            rw [ess, if_pos g, if_pos (cf_oq_fs g)]
    refine in_ 4 1 (by omega) (by omega) _ (fun a b q1 q2 q3 => by rw [cf_ru_ne (by omega)]; exact F a b q1 q2 q3) (by rw [cf_ru_ne (by omega)]; exact e1) (fun p' m' hp' hm' => ?_) (fun p' hp' => by rw [cf_ru_ne (by omega)]; exact W2 p' hp') (by rw [cf_ru_ne (by omega)]; exact W3)
    by_cases z : p' = p ∧ m' = 0
    · obtain ⟨rfl, rfl⟩ := z
      rw [Nat.add_zero, cf_ru_eq, if_pos (by omega)]
      unfold cf_ss
      rw [if_neg (by omega), if_pos rfl, cf_oS]
    · rw [cf_ru_ne (by omega), W1 p' m' hp' hm']
      by_cases z2 : p' < p
      · rw [if_pos z2, if_pos (by omega)]
      · rw [if_neg z2, if_neg (by omega)]
theorem c127 {hi0 : Nat → Nat → Int32} {S : cf_S} (X : cf_XR S hi0 hl) (K0 : cf_Sk S hi0) {u : Nat → Nat} (W : cf_FW S u) {i : Nat} (hI : i < 3) (hs : ¬ u i = 0 → cf_fs S (S 9 (u i - 1) % 64) = true)
    (k : ∀ hi2, cf_fpr i hi0 hi2 → cf_Tb1 (cf_gg S u) (cf_ss S u) (cf_hh S u) hi2 i → RI (nI (cf_sx S u i)) hi2 hl v) :
    rx_CI L rx_tr 127 [.ref 134, .int (nI i), .int (oI (u i)), .long (cf_sto S u)] hi0 hl v RI := by
  have V := X.1.1
  have C := X.1.2.2.2.2.1
  have h6 := V.2.2.1
  have hui := W.1 i hI
  have hn := W.2.2.2.2.2.2.2
  have e1 : nI i * 5 * 21 = nI (i * 5 * 21) := by rw [show (5 : Int32) = nI 5 from rfl, show (21 : Int32) = nI 21 from rfl, cf_nmul, cf_nmul]
  have e2 : (nI i + 1) * 5 * 21 = nI ((i + 1) * 5 * 21) := by rw [show nI i + 1 = nI (i + 1) from nI_add i 1, show (5 : Int32) = nI 5 from rfl, show (21 : Int32) = nI 21 from rfl, cf_nmul, cf_nmul]
  have e3 : nI i * 21 = nI (i * 21) := by rw [show (21 : Int32) = nI 21 from rfl, cf_nmul]
  have e4 : (nI i + 1) * 21 = nI ((i + 1) * 21) := by rw [show nI i + 1 = nI (i + 1) from nI_add i 1, show (21 : Int32) = nI 21 from rfl, cf_nmul]
  have e5 : nI i * 21 + 20 = nI (i * 21 + 20) := by rw [e3, show (20 : Int32) = nI 20 from rfl, nI_add]
  -- behind the three fills
  have mid : ∀ hi2 hi3 : Nat → Nat → Int32, (∀ a j, ¬ a = 136 → hi2 a j = rx_u hi0 138 i (-1) a j) → (∀ j, hi2 136 j = if i * 5 * 21 ≤ j ∧ j < (i + 1) * 5 * 21 then (-1) else rx_u hi0 138 i (-1) 136 j) → (∀ a j, ¬ a = 137 → hi3 a j = hi2 a j) → (∀ j, hi3 137 j = if i * 21 ≤ j ∧ j < (i + 1) * 21 then (1000000 : Int32) else hi2 137 j) → cf_fpr i hi0 (rx_u hi3 137 (i * 21 + 20) 0) ∧ (∀ p m, p < 20 → m < 5 → rx_u hi3 137 (i * 21 + 20) 0 136 ((i * 21 + p) * 5 + m) = oI 0) ∧ (∀ p, p < 20 → rx_u hi3 137 (i * 21 + 20) 0 137 (i * 21 + p) = nI 1000000) ∧ rx_u hi3 137 (i * 21 + 20) 0 137 (i * 21 + 20) = nI 0 ∧ rx_u hi3 137 (i * 21 + 20) 0 138 i = -1 := by
    intro hi2 hi3 F2 W2 F3 W3
    refine ⟨fun a b q1 q2 q3 => ?_, fun p m hp hm => ?_, fun p hp => ?_, ?_, ?_⟩
    · rw [cf_ru_ne (by omega)]
      by_cases z : a = 137
      · subst z
        rw [W3, if_neg (by omega), F2 _ _ (by omega), cf_ru_ne (by omega)]
      · rw [F3 a b z]
        by_cases z2 : a = 136
        · subst z2
          rw [W2, if_neg (by omega), cf_ru_ne (by omega)]
        · rw [F2 a b z2, cf_ru_ne (by omega)]
    · rw [cf_ru_ne (by omega), F3 _ _ (by omega), W2, if_pos (by omega)]; rfl
    · rw [cf_ru_ne (by omega), W3, if_pos (by omega)]; rfl
    · rw [cf_ru_eq]; rfl
    · rw [cf_ru_ne (by omega), F3 _ _ (by omega), F2 _ _ (by omega), cf_ru_eq]
  refine w127_prepare (c59 V C ?_)
  rw [cf_cn_o hui h6, e1, e2, e3, e4]
  by_cases hu : u i = 0
  · refine Or.inl ⟨if_pos hu, i, rfl, hI, c128a (by omega) (by omega) (fun hi2 F2 W2 => c128b (by omega) (by omega) (fun hi3 F3 W3 => ⟨i * 21 + 20, by rw [← e3]; exact e5, by omega, ?_⟩))⟩
    obtain ⟨m1, m2, m3, m4, m5⟩ := mid hi2 hi3 F2 W2 F3 W3
    refine c_retIe (k _ m1 ⟨?_, fun p m hp hm => ?_, fun p hp => ?_⟩) ?_
    · rw [m5]; unfold cf_gg; rw [if_pos hu]; rfl
    · rw [m2 p m hp hm]; unfold cf_ss; rw [if_pos (Or.inl hu)]
    · unfold cf_hh
      by_cases z : p = 20
      · rw [if_pos z, z, m4]
      · rw [if_neg z, if_pos (Or.inl hu), m3 p (by omega)]
    · unfold cf_sx; rw [if_pos hu]; rfl
  · have hc : u i - 1 < S 0 2 := by omega
    obtain ⟨w1, w2, w3, w4⟩ := W.2.2.2.2.2.2.1 i hI (by omega)
    have hgl := cf_goal_lt V hc w3
    have hwh := cf_V_wh V
    refine Or.inr ⟨u i - 1, by omega, if_neg hu, i, rfl, hI, c128a (by omega) (by omega) (fun hi2 F2 W2 => c128b (by omega) (by omega) (fun hi3 F3 W3 => ⟨i * 21 + 20, by rw [← e3]; exact e5, by omega, ?_⟩))⟩
    obtain ⟨m1, m2, m3, m4, m5⟩ := mid hi2 hi3 F2 W2 F3 W3
    generalize rx_u hi3 137 (i * 21 + 20) 0 = hi8 at *
    have X8 : cf_XR S hi8 hl := cf_A_XR X (fun a b _ _ => m1 a b (by omega) (by omega) (by omega)) (fun _ _ _ _ => rfl)
    have K8 : cf_Sk S hi8 := cf_Sk_ext K0 (fun a b _ _ => m1 a b (by omega) (by omega) (by omega))
    have C8 := X8.1.2.2.2.2.1.2.2.1 _ hc
    have goal8 : hi8 (rx_ct (u i - 1)) 8 = nI (S 5 (u i - 1) - 1) := by rw [C8.2.2.2.1, ← cf_oS, show S 5 (u i - 1) - 1 + 1 = S 5 (u i - 1) by omega]
    have eg : oI (if cf_fs S (S 5 (u i - 1) - 1) = true then cf_rk S (S 5 (u i - 1) - 1) + 1 else 0) = oI (cf_gg S u i) := by
      unfold cf_gg; rw [if_neg hu]
    have go := g127 (RI := RI) (L := L) (v := v) (x2 := oI (u i)) (x3 := cf_sto S u) X K0 W hI hu (hs hu) k (cf_rk S 64) 0 (by omega) (rx_u hi8 138 i (oI (cf_gg S u i))) (fun a b q1 q2 q3 => by rw [cf_ru_ne (by omega)]; exact m1 a b q1 q2 q3) cf_ru_eq (fun p m hp hm => by rw [cf_ru_ne (by omega), m2 p m hp hm, if_neg (by omega)]) (fun p hp => by rw [cf_ru_ne (by omega)]; exact m3 p hp) (by rw [cf_ru_ne (by omega)]; exact m4)
    have em := cf_oq_m X (u := u) (c := u i - 1)
    refine ⟨fun q => ?_, fun q => ?_⟩
    all_goals rw [C8.1, show (1 : Int32) = nI 1 from rfl, nI_eq (by omega) (by omega)] at q
    · rw [goal8]
      refine c129 K8 hn (by omega) ⟨i, rfl, hI, ?_⟩
      rw [eg, em.1 q]; exact go
    · refine c37 (j := 0) (x := 0) X8 (by omega) (by omega) ?_
      rw [goal8]
      refine c129 K8 hn (by omega) ⟨i, rfl, hI, ?_⟩
      rw [eg, em.2 q]; exact go
end RXE
