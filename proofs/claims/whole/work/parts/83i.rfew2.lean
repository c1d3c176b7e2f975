/-! few of the reference, whole. -/
section RXE
variable {L : Nat} {t : List (Nat × Nat)} {v : Nat → Nat → Option Nat}
variable {RI : Int32 → (Nat → Nat → Int32) → (Nat → Nat → Int64) → (Nat → Nat → Option Nat) → Prop}
theorem g228c {hi0 : Nat → Nat → Int32} {hl : Nat → Nat → Int64} {S : cf_S} {ls : Nat} (I : cf_Ir ls S) (M : cf_M S hi0) (N : cf_NW S hi0 hl) {u : Nat → Nat} (W : cf_rk S 64 ≤ 20 → cf_FW S u) {x1 x2 x3 : Int32} (hg : cf_rk S 64 ≤ 20 → hi0 90 53 = nI (cf_gr u)) (hw : cf_rk S 64 ≤ 20 → ∀ i, i < 3 → ¬ u i = 0 → hi0 128 i = nI (u i - 1))
    (k0 : 20 < cf_rk S 64 → ∀ hi2, cf_fF hi0 hi2 → RI (-2) hi2 hl v)
    (k1 : cf_rk S 64 ≤ 20 → ∀ z hi2 hl2, cf_fF hi0 hi2 → (∀ a b, ¬ a = 131 → hl2 a b = hl a b) → cf_an (cf_gg S u) (cf_ss S u) (cf_st3 S u) z → RI z hi2 hl2 v) : rx_aw 228 93 [.ref 90, .int x1, .int x2, .int x3, .int 0, rx_no] [] (rx_hp L t (rx_u hi0 90 50 0) hl v) (fun r h2 => ∃ z : Int32, r = some (.int z) ∧ rx_ok2 L t h2 (RI z)) := by
  have V := I.1
  have hwh := cf_V_wh V
  have lp : ∀ d q, q + d = S 0 0 * S 0 1 → ∀ hi : Nat → Nat → Int32, (∀ a b, ¬ (a = 90 ∧ b = 50) → ¬ a = 126 → ¬ a = 127 → hi a b = hi0 a b) → hi 90 50 = nI (cf_rk S q) → cf_rk S q ≤ 20 → (∀ q', q' < q → cf_fs S q' = true → hi 126 (cf_rk S q') = nI q') → (∀ q', q' < q → hi 127 q' = oI (if cf_fs S q' = true then cf_rk S q' + 1 else 0)) → rx_aw 228 93 [.ref 90, .int x1, .int x2, .int x3, .int (nI q), rx_no] [] (rx_hp L t hi hl v) (fun r h2 => ∃ z : Int32, r = some (.int z) ∧ rx_ok2 L t h2 (RI z)) := by
    intro d
    induction d with
    | zero =>
      intro q hqd hi F e h20 J1 J2
      have hq : q = S 0 0 * S 0 1 := by omega
      have M' : cf_M S hi := cf_M_ext M (fun a b q1 q2 q3 => F a b (by omega) (by omega) (by omega))
      have hrk : cf_rk S 64 ≤ 20 := by rw [← cf_rk_wh V, ← hq]; exact h20
      have N' : cf_NW S hi hl := by
        refine ⟨fun c hc => ⟨fun w hw' => ?_, fun w hw' => by rw [F _ _ (by omega) (by omega) (by omega)]; exact (N.1 c hc).2 w hw'⟩, fun s hs w hw' => by rw [F _ _ (by omega) (by omega) (by omega)]; exact N.2 s hs w hw'⟩
        rw [F _ _ (by omega) (by omega) (by omega), F _ _ (by omega) (by omega) (by omega), F _ _ (by omega) (by omega) (by omega)]
        exact (N.1 c hc).1 w hw'
      refine w228_few_r_93 ⟨fun _ => g228b I M' N' (W hrk) ((F _ _ (by omega) (by omega) (by omega)).trans (hg hrk)) (fun i h1 h2 => (F _ _ (by omega) (by omega) (by omega)).trans (hw hrk i h1 h2)) (fun p hp => ?_) (fun q' hq' => J2 q' (by omega)) (fun z hi2 hl2 F2 Fl A => k1 hrk z hi2 hl2 (fun a b w1 w2 => (F2 a b w1 w2).trans (F a b (by omega) (by omega) (by omega))) Fl A), fun g => absurd ?_ g⟩
      · obtain ⟨s1, s2, s3⟩ := cf_sk_ok hp
        have s4 := cf_fs_lt s2
        have := J1 (cf_sk S p) (by omega) s2
        rw [s3] at this; exact this
      · rw [M'.1.2.2.2.2.2.2, cf_nle (by omega) (by omega)]; omega
    | succ d ih =>
      intro q hqd hi F e h20 J1 J2
      have hq64 : q < 64 := by omega
      have M' : cf_M S hi := cf_M_ext M (fun a b q1 q2 q3 => F a b (by omega) (by omega) (by omega))
      have M2 : cf_M S (rx_u hi 127 q (-1)) := cf_M_ext M' (fun a b q1 q2 q3 => cf_ru_ne (by omega))
      refine w228_few_r_93 ⟨fun g => ?_, fun _ => ⟨q, rfl, hq64, c168 V M2 (by omega) ⟨fun g => ⟨fun g2 => ?_, fun g2 => ⟨cf_rk S q, ?_, ?_, q, rfl, hq64, ?_⟩⟩, fun g => ?_⟩⟩⟩
      · rw [M'.1.2.2.2.2.2.2, cf_nle (by omega) (by omega)] at g; omega
      · have hf : cf_fs S q = true := by unfold cf_fs; rw [decide_eq_true (show q < S 0 0 * S 0 1 by omega), cf_B_eq g]; rfl
        rw [cf_ru_ne (by omega), e, show (20 : Int32) = nI 20 from rfl, nI_eq (by omega) (by omega)] at g2
        have := cf_rk_lt hq64 hf
        exact c_retI (k0 (by omega) _ (fun a b w1 w2 => by rw [cf_ru_ne (by omega)]; exact F a b (by omega) (by omega) (by omega)))
      · rw [cf_ru_ne (by omega)]; exact e
      · rw [cf_ru_ne (by omega), e, show (20 : Int32) = nI 20 from rfl, nI_eq (by omega) (by omega)] at g2
        omega
      · have hf : cf_fs S q = true := by unfold cf_fs; rw [decide_eq_true (show q < S 0 0 * S 0 1 by omega), cf_B_eq g]; rfl
        rw [cf_ru_ne (by omega), e, show (20 : Int32) = nI 20 from rfl, nI_eq (by omega) (by omega)] at g2
        have e1 : rx_u (rx_u hi 127 q (-1)) 126 (cf_rk S q) (nI q) 90 50 = nI (cf_rk S q) := by rw [cf_ru_ne (by omega), cf_ru_ne (by omega)]; exact e
        rw [e1]
        have e2 : rx_u (rx_u (rx_u hi 127 q (-1)) 126 (cf_rk S q) (nI q)) 127 q (nI (cf_rk S q)) 90 50 = nI (cf_rk S q) := by rw [cf_ru_ne (by omega)]; exact e1
        rw [e2, show nI (cf_rk S q) + 1 = nI (cf_rk S q + 1) from nI_add _ 1, show nI q + 1 = nI (q + 1) from nI_add q 1]
        have er : cf_rk S (q + 1) = cf_rk S q + 1 := by rw [cf_rk_s, hf]; rfl
        refine ih (q + 1) (by omega) _ (fun a b w1 w2 w3 => ?_) ?_ (by omega) (fun q' h1 h2 => ?_) (fun q' h1 => ?_)
        · rw [cf_ru_ne (by omega), cf_ru_ne (by omega), cf_ru_ne (by omega), cf_ru_ne (by omega)]; exact F a b w1 w2 w3
        · rw [cf_ru_eq, er]
        · rw [cf_ru_ne (by omega), cf_ru_ne (by omega)]
          by_cases w : q' = q
          · subst w; exact cf_ru_eq
          · have := cf_rk_lt (show q' < q by omega) h2
            rw [cf_ru_ne (by omega), cf_ru_ne (by omega)]; exact J1 q' (by omega) h2
        · rw [cf_ru_ne (by omega)]
          by_cases w : q' = q
          · subst w; rw [cf_ru_eq, if_pos hf, cf_oS]
          · rw [cf_ru_ne (by omega), cf_ru_ne (by omega), cf_ru_ne (by omega)]; exact J2 q' (by omega)
      · have hf : cf_fs S q = false := by unfold cf_fs; rw [cf_B_ne g, Bool.not_true, Bool.and_false]
        rw [show nI q + 1 = nI (q + 1) from nI_add q 1]
        have er : cf_rk S (q + 1) = cf_rk S q := by rw [cf_rk_s, hf]; rfl
        refine ih (q + 1) (by omega) _ (fun a b w1 w2 w3 => ?_) ?_ (by omega) (fun q' h1 h2 => ?_) (fun q' h1 => ?_)
        · rw [cf_ru_ne (by omega)]; exact F a b w1 w2 w3
        · rw [cf_ru_ne (by omega), er]; exact e
        · rw [cf_ru_ne (by omega)]
          by_cases w : q' = q
          · subst w; rw [hf] at h2; cases h2
          · exact J1 q' (by omega) h2
        · by_cases w : q' = q
          · subst w
            rw [cf_ru_eq, hf, if_neg (fun z => Bool.noConfusion z)]; rfl
          · rw [cf_ru_ne (by omega)]; exact J2 q' (by omega)
  have r0 : cf_rk S 0 = 0 := rfl
  exact lp (S 0 0 * S 0 1) 0 (by omega) _ (fun a b w1 w2 w3 => cf_ru_ne (by omega)) (by rw [cf_ru_eq, r0]; rfl) (by omega) (fun q' h => by omega) (fun q' h => by omega)
theorem c228 {hi : Nat → Nat → Int32} {hl : Nat → Nat → Int64} {S : cf_S} {ls : Nat} (I : cf_Ir ls S) (Z : cf_RM S hi hl) {a0 a1 a2 : Int32}
    (k0 : cf_fwz S a0 a1 a2 → ∀ hi2, cf_fF hi hi2 → RI (-2) hi2 hl v)
    (k1 : ¬ cf_fwz S a0 a1 a2 → ∀ z hi2 hl2, cf_fF hi hi2 → (∀ a b, ¬ a = 131 → hl2 a b = hl a b) → cf_an (cf_gg S (cf_us S a0 a1 a2)) (cf_ss S (cf_us S a0 a1 a2)) (cf_st3 S (cf_us S a0 a1 a2)) z → RI z hi2 hl2 v) : rx_CI L t 228 [.ref 90, .int a0, .int a1, .int a2] hi hl v RI := by
  obtain ⟨V, H, M, K, N⟩ := Z
  have h6 := V.2.2.1
  -- behind the group and who
  have go : ∀ g : Nat, (a2 = -1 → g = 2) → (¬ a2 = -1 → g = 3) → rx_CI L t 229 [.ref 90, .int a0] (rx_u (rx_u (rx_u (rx_u hi 90 53 (nI g)) 128 0 a0) 128 1 a1) 128 2 a2) hl v (fun z5 hi5 hl5 v5 => ((z5 = 0 → ∃ z : Int32, some (Value.int (-2)) = some (.int z) ∧ rx_ok2 L t (rx_hp L t hi5 hl5 v5) (RI z)) ∧ (¬ z5 = 0 → rx_CI L t 229 [.ref 90, .int a1] hi5 hl5 v5 (fun z7 hi7 hl7 v7 => ((z7 = 0 → ∃ z : Int32, some (Value.int (-2)) = some (.int z) ∧ rx_ok2 L t (rx_hp L t hi7 hl7 v7) (RI z)) ∧ (¬ z7 = 0 → ((a0 = a1 → ∃ z : Int32, some (Value.int (-2)) = some (.int z) ∧ rx_ok2 L t (rx_hp L t hi7 hl7 v7) (RI z)) ∧ (¬ a0 = a1 → ((hi7 90 53 = 3 → rx_CI L t 229 [.ref 90, .int a2] hi7 hl7 v7 (fun z11 hi11 hl11 v11 => ((z11 = 0 → ∃ z : Int32, some (Value.int (-2)) = some (.int z) ∧ rx_ok2 L t (rx_hp L t hi11 hl11 v11) (RI z)) ∧ (¬ z11 = 0 → ((a2 = a0 → ∃ z : Int32, some (Value.int (-2)) = some (.int z) ∧ rx_ok2 L t (rx_hp L t hi11 hl11 v11) (RI z)) ∧ (¬ a2 = a0 → ((a2 = a1 → ∃ z : Int32, some (Value.int (-2)) = some (.int z) ∧ rx_ok2 L t (rx_hp L t hi11 hl11 v11) (RI z)) ∧ (¬ a2 = a1 → rx_aw 228 93 [.ref 90, .int a0, .int a1, .int a2, .int 0, rx_no] [] (rx_hp L t (rx_u hi11 90 50 0) hl11 v11) (fun r h2 => ∃ z : Int32, r = some (.int z) ∧ rx_ok2 L t h2 (RI z)))))))))) ∧ (¬ hi7 90 53 = 3 → rx_aw 228 93 [.ref 90, .int a0, .int a1, .int a2, .int 0, rx_no] [] (rx_hp L t (rx_u hi7 90 50 0) hl7 v7) (fun r h2 => ∃ z : Int32, r = some (.int z) ∧ rx_ok2 L t h2 (RI z)))))))))))) := by
    intro g g2 g3
    generalize hA : rx_u (rx_u (rx_u (rx_u hi 90 53 (nI g)) 128 0 a0) 128 1 a1) 128 2 a2 = hiA
    have FA : cf_fF hi hiA := fun a b w1 w2 => by rw [← hA, cf_ru_ne (by omega), cf_ru_ne (by omega), cf_ru_ne (by omega), cf_ru_ne (by omega)]
    have M' : cf_M S hiA := cf_M_ext M (fun a b q1 q2 q3 => FA a b (by omega) (by omega))
    have N' : cf_NW S hiA hl := by
      refine ⟨fun c hc => ⟨fun w hw' => ?_, fun w hw' => by rw [FA _ _ (by omega) (by omega)]; exact (N.1 c hc).2 w hw'⟩, fun s hs w hw' => by rw [FA _ _ (by omega) (by omega)]; exact N.2 s hs w hw'⟩
      rw [FA _ _ (by omega) (by omega), FA _ _ (by omega) (by omega), FA _ _ (by omega) (by omega)]
      exact (N.1 c hc).1 w hw'
    have hgb : g < 2 ^ 31 := by
      by_cases z : a2 = -1
      · have := g2 z; omega
      · have := g3 z; omega
    have e53 : hiA 90 53 = nI g := by rw [← hA, cf_ru_ne (by omega), cf_ru_ne (by omega), cf_ru_ne (by omega), cf_ru_eq]
    have ew : hiA 128 0 = a0 ∧ hiA 128 1 = a1 ∧ hiA 128 2 = a2 := by
      rw [← hA]
      exact ⟨by rw [cf_ru_ne (by omega), cf_ru_ne (by omega), cf_ru_eq], by rw [cf_ru_ne (by omega), cf_ru_eq], cf_ru_eq⟩
    have no : cf_fwz S a0 a1 a2 → ∃ z : Int32, some (Value.int (-2)) = some (.int z) ∧ rx_ok2 L t (rx_hp L t hiA hl v) (RI z) := fun z => c_retI (k0 z hiA FA)
    have fin : (20 < cf_rk S 64 → cf_fwz S a0 a1 a2) → (cf_rk S 64 ≤ 20 → ¬ cf_fwz S a0 a1 a2) → rx_aw 228 93 [.ref 90, .int a0, .int a1, .int a2, .int 0, rx_no] [] (rx_hp L t (rx_u hiA 90 50 0) hl v) (fun r h2 => ∃ z : Int32, r = some (.int z) ∧ rx_ok2 L t h2 (RI z)) := by
      intro f1 f2
      by_cases hr : cf_rk S 64 ≤ 20
      · obtain ⟨W, e0, e1, e2, z2⟩ := cf_us_ok V (f2 hr)
        refine g228c (u := cf_us S a0 a1 a2) I M' N' (fun _ => W) (fun _ => ?_) (fun _ i h1 h2 => ?_) (fun h => by omega) (fun _ z hi2 hl2 F2 Fl A => k1 (f2 hr) z hi2 hl2 (fun a b w1 w2 => (F2 a b w1 w2).trans (FA a b w1 w2)) Fl A)
        · rw [e53]
          unfold cf_gr
          by_cases z : a2 = -1
          · rw [if_pos (z2.mpr z), g2 z]
          · rw [if_neg (fun w => z (z2.mp w)), g3 z]
        · have key : ∀ (y : Int32) n, y = oI n → ¬ n = 0 → y = nI (n - 1) := fun y n q1 q2 => by rw [q1, ← cf_oS, show n - 1 + 1 = n by omega]
          match i, h1 with
          | 0, _ => rw [ew.1]; exact key _ _ e0 h2
          | 1, _ => rw [ew.2.1]; exact key _ _ e1 h2
          | 2, _ => rw [ew.2.2]; exact key _ _ e2 h2
      · exact g228c (u := fun _ => 0) I M' N' (fun h => absurd h hr) (fun h => absurd h hr) (fun h => absurd h hr) (fun h hi2 F2 => k0 (f1 (by omega)) hi2 (fun a b w1 w2 => (F2 a b w1 w2).trans (FA a b w1 w2))) (fun h => absurd h hr)
    have g3' : hiA 90 53 = 3 ↔ ¬ a2 = -1 := by
      rw [e53, show (3 : Int32) = nI 3 from rfl, nI_eq hgb (by omega)]
      constructor
      · intro h z; have := g2 z; omega
      · exact g3
    have nt : ∀ {z : Bool} {p : Prop}, (z = true ↔ p) → cf_B z = 0 → ¬ p := fun {z p} h q w => by rw [h.mpr w] at q; exact absurd q (by decide)
    have f1 : 20 < cf_rk S 64 → cf_fwz S a0 a1 a2 := fun h => Or.inr (Or.inr (Or.inr (Or.inr h)))
    refine c229 V M' (fun z5 hz5 => ⟨fun q => no (Or.inl (nt hz5 q)), fun q => c229 V M' (fun z7 hz7 => ⟨fun q2 => no (Or.inr (Or.inl (nt hz7 q2))), fun q2 => ⟨fun q3 => no (Or.inr (Or.inr (Or.inl q3))), fun q3 => ⟨fun q4 => c229 V M' (fun z11 hz11 => ⟨fun q5 => no (Or.inr (Or.inr (Or.inr (Or.inl ⟨g3'.mp q4, Or.inl (nt hz11 q5)⟩)))), fun q5 => ⟨fun q6 => no (Or.inr (Or.inr (Or.inr (Or.inl ⟨g3'.mp q4, Or.inr (Or.inl q6)⟩)))), fun q6 => ⟨fun q7 => no (Or.inr (Or.inr (Or.inr (Or.inl ⟨g3'.mp q4, Or.inr (Or.inr q7)⟩)))), fun q7 => fin f1 (fun hr => ?_)⟩⟩⟩), fun q4 => fin f1 (fun hr => ?_)⟩⟩⟩)⟩)
    · rintro (z | z | z | ⟨z1, z | z | z⟩ | z)
      · exact z (hz5.mp (cf_B_ne q))
      · exact z (hz7.mp (cf_B_ne q2))
      · exact q3 z
      · exact z (hz11.mp (cf_B_ne q5))
      · exact q6 z
      · exact q7 z
      · omega
    · have hm : a2 = -1 := Classical.byContradiction fun z => q4 (g3'.mpr z)
      rintro (z | z | z | ⟨z1, _⟩ | z)
      · exact z (hz5.mp (cf_B_ne q))
      · exact z (hz7.mp (cf_B_ne q2))
      · exact q3 z
      · exact z1 hm
      · omega
  refine w228_few_r ⟨fun q => ⟨0, rfl, by omega, 1, rfl, by omega, 2, rfl, by omega, go 2 (fun _ => rfl) (fun z => absurd q z)⟩, fun q => ⟨0, rfl, by omega, 1, rfl, by omega, 2, rfl, by omega, go 3 (fun z => absurd z q) (fun _ => rfl)⟩⟩
end RXE
