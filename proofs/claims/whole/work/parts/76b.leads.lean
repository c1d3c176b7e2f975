/-! CartFloorModel.leads: what can be reached. -/
def cf_opn (w h : Nat) (sh : Int64) (q : Nat) : Bool := decide (q < w * h) && !cf_has sh q
section RXE
variable {L : Nat} {t : List (Nat × Nat)} {hl : Nat → Nat → Int64} {v : Nat → Nat → Option Nat}
variable {RI : Int32 → (Nat → Nat → Int32) → (Nat → Nat → Int64) → (Nat → Nat → Option Nat) → Prop}
theorem c227 {hi0 : Nat → Nat → Int32} {w h : Nat} (K : cf_K4 w h hi0) {f g : Nat} {sh : Int64} (hf : f < w * h) (hg : g < w * h) (k : ∀ b : Bool, (b = true ↔ ∃ n, cf_rn w h (cf_opn w h sh) f n g) → ∀ hi2, (∀ a b, ¬ a = 125 → hi2 a b = hi0 a b) → RI (cf_B b) hi2 hl v) : rx_CI L t 227 [.ref 90, .int (nI f), .int (nI g), .long sh] hi0 hl v RI := by
  have hwh := cf_wh4 K
  -- what the row of those seen knows
  let In : (Nat → Nat → Int32) → (Nat → Bool) → Prop := fun hi sn => (∀ a b, ¬ a = 125 → hi a b = hi0 a b) ∧ (∀ q, q < 64 → hi 125 q = cf_B (sn q)) ∧ (∀ q, sn q = true → cf_opn w h sh q = true ∧ ∃ n, cf_rn w h (cf_opn w h sh) f n q) ∧ (cf_opn w h sh f = true → sn f = true)
  let cl : (Nat → Bool) → Nat → Nat → Prop := fun sn s d => sn s = true → ∀ p, cf_step w h s d = some p → cf_opn w h sh p = true → sn p = true
  let Qr : Option Value → rx_H → Prop := fun r h2 => ∃ z : Int32, r = some (.int z) ∧ rx_ok2 L t h2 (RI z)
  have K2 : ∀ hi sn, In hi sn → cf_K4 w h hi := fun hi sn I => by
    obtain ⟨k1, k2, k3, k4, k5, k6, k7⟩ := K
    exact ⟨k1, k2, k3, k4, (I.1 _ _ (by omega)).trans k5, (I.1 _ _ (by omega)).trans k6, (I.1 _ _ (by omega)).trans k7⟩
  have e2 : ∀ hi sn, In hi sn → hi 90 2 = nI (w * h) := fun hi sn I => (K2 hi sn I).2.2.2.2.2.2
  -- the end
  have fin : ∀ hi sn, In hi sn → (∀ s, s < w * h → ∀ d, d < 4 → cl sn s d) → rx_aw 227 49 [.ref 90, .int (nI f), .int (nI g), .long sh, rx_no, .int 0, rx_no, rx_no, rx_no] [] (rx_hp L t hi hl v) Qr := by
    intro hi sn I hc
    have e := I.2.1 g (by omega)
    refine w227_leads_r_49 ⟨fun _ => ⟨g, rfl, by omega, ?_, c_retIe (k (sn g) ?_ hi I.1) e.symm⟩, fun z => absurd rfl z⟩
    · rw [e]; exact cf_B01 _
    · constructor
      · intro z; exact (I.2.2.1 g z).2
      · have : ∀ n q, cf_rn w h (cf_opn w h sh) f n q → sn q = true := by
          intro n
          induction n with
          | zero => rintro q ⟨rfl, h2⟩; exact I.2.2.2 h2
          | succ n ih =>
            rintro q ⟨h1, h2 | ⟨d, p, hd, h3, h4⟩⟩
            · exact ih q h2
            · have sp := ih p h4
              have op := (I.2.2.1 p sp).1
              have hq : q < w * h := by
                unfold cf_opn at h1
                rw [Bool.and_eq_true, decide_eq_true_iff] at h1
                exact h1.1
              have hp := cf_step_lt hq h3
              exact hc p hp (cf_opp d) (by unfold cf_opp; omega) sp q (cf_step_inv hd hq h3) h1
        rintro ⟨n, hn⟩
        exact this n g hn
  -- one round
  have pass : ∀ N0 : Nat, (∀ hi sn, In hi sn → N0 < cf_ct1 sn → rx_aw 227 49 [.ref 90, .int (nI f), .int (nI g), .long sh, rx_no, .int 1, rx_no, rx_no, rx_no] [] (rx_hp L t hi hl v) Qr) →
      ∀ m s, s + m = w * h → ∀ hi sn (b : Bool), In hi sn → (b = true → N0 < cf_ct1 sn) → (b = false → N0 ≤ cf_ct1 sn ∧ ∀ s', s' < s → ∀ d, d < 4 → cl sn s' d) → rx_aw 227 60 [.ref 90, .int (nI f), .int (nI g), .long sh, rx_no, .int (cf_B b), .int (nI s), rx_no, rx_no] [] (rx_hp L t hi hl v) Qr := by
    intro N0 again m
    induction m with
    | zero =>
      intro s hs hi sn b I hb1 hb0
      refine w227_leads_r_60 ⟨fun _ => ?_, fun z => absurd ?_ z⟩
      · cases b with
        | true => exact again hi sn I (hb1 rfl)
        | false => exact fin hi sn I (fun s' hs' => (hb0 rfl).2 s' (by omega))
      · rw [e2 hi sn I, cf_nle (by omega) (by omega)]; omega
    | succ m ih =>
      intro s hs hi sn b I hb1 hb0
      have hsl : s < w * h := by omega
      have d4 : ∀ e d, d + e = 4 → ∀ hi sn (b : Bool), In hi sn → (b = true → N0 < cf_ct1 sn) → (b = false → N0 ≤ cf_ct1 sn ∧ (∀ s', s' < s → ∀ d, d < 4 → cl sn s' d) ∧ ∀ d', d' < d → cl sn s d') → rx_aw 227 72 [.ref 90, .int (nI f), .int (nI g), .long sh, rx_no, .int (cf_B b), .int (nI s), .int (nI d), rx_no] [] (rx_hp L t hi hl v) Qr := by
        intro e
        induction e with
        | zero =>
          intro d hd hi sn b I hb1 hb0
          have : d = 4 := by omega
          subst this
          refine w227_leads_r_72 ⟨fun _ => ?_, fun z => absurd (by decide) z⟩
          rw [show nI s + 1 = nI (s + 1) from nI_add s 1]
          refine ih (s + 1) (by omega) hi sn b I hb1 (fun z => ⟨(hb0 z).1, fun s' hs' d hd => ?_⟩)
          by_cases e : s' = s
          · subst e; exact (hb0 z).2.2 d hd
          · exact (hb0 z).2.1 s' (by omega) d hd
        | succ e ihd =>
          intro d hd hi sn b I hb1 hb0
          have hd4 : d < 4 := by omega
          have es := I.2.1 s (by omega)
          -- the next direction, nothing changed
          have nx : (b = false → cl sn s d) → rx_aw 227 72 [.ref 90, .int (nI f), .int (nI g), .long sh, rx_no, .int (cf_B b), .int (nI s), .int (nI d + 1), rx_no] [] (rx_hp L t hi hl v) Qr := fun hcl => by
            rw [show nI d + 1 = nI (d + 1) from nI_add d 1]
            refine ihd (d + 1) (by omega) hi sn b I hb1 (fun z => ⟨(hb0 z).1, (hb0 z).2.1, fun d' hd' => ?_⟩)
            by_cases e : d' = d
            · subst e; exact hcl z
            · exact (hb0 z).2.2 d' (by omega)
          refine w227_leads_r_72 ⟨fun z => ?_, fun _ => ⟨s, rfl, by omega, fun z => ?_, fun z => c181 (K2 hi sn I) hsl hd4 ?_⟩⟩
          · rw [show (4 : Int32) = nI 4 from rfl, cf_nle (by omega) (by omega)] at z; omega
          · rw [es] at z
            have z' := cf_B_eq z
            rw [show nI s + 1 = nI (s + 1) from nI_add s 1]
            refine ih (s + 1) (by omega) hi sn b I hb1 (fun y => ⟨(hb0 y).1, fun s' hs' d hd => ?_⟩)
            by_cases e : s' = s
            · subst e; intro q; rw [z'] at q; cases q
            · exact (hb0 y).2.1 s' (by omega) d hd
          · rw [es] at z
            have z' := cf_B_ne z
            cases e1 : cf_step w h s d with
            | none =>
              refine ⟨fun _ => nx (fun _ _ p hp => by rw [e1] at hp; cases hp), fun y => absurd (show (-1 : Int32) < 0 by decide) y⟩
            | some p =>
              have hp := cf_step_lt hsl e1
              refine ⟨fun y => ?_, fun _ => ⟨p, rfl, by omega, fun y => c169 (by omega) ⟨fun y2 => ⟨p, rfl, by omega, ?_⟩, fun y2 => nx (fun _ _ p' hp' ho => ?_)⟩, fun y => nx (fun _ _ p' hp' _ => ?_)⟩⟩
              · exact absurd y (by show ¬ nI p < 0; rw [show (0 : Int32) = nI 0 from rfl, cf_lt, nI_toInt (by omega), nI_toInt (by omega)]; omega)
              · rw [cf_cmp0, cf_ab (by omega)] at y2
                rw [I.2.1 p (by omega)] at y
                have y' := cf_B_eq y
                have hop : cf_opn w h sh p = true := by unfold cf_opn; rw [decide_eq_true hp, y2]; rfl
                rw [show nI d + 1 = nI (d + 1) from nI_add d 1, show vp_nar .boolean (1 : Int32) = 1 from rfl]
                have I' : In (rx_u hi 125 p 1) (fun q => if q = p then true else sn q) := by
                  refine ⟨fun a b q => by rw [cf_ru_ne (by omega)]; exact I.1 a b q, fun q hq => ?_, fun q hq => ?_, fun q => ?_⟩
                  · by_cases e : q = p
                    · subst e; rw [cf_ru_eq]; show 1 = cf_B (if q = q then true else sn q); rw [if_pos rfl]; rfl
                    · rw [cf_ru_ne (by omega)]; show _ = cf_B (if q = p then true else sn q); rw [if_neg e]; exact I.2.1 q hq
                  · by_cases e : q = p
                    · subst e
                      obtain ⟨_, n, hn⟩ := I.2.2.1 s z'
                      exact ⟨hop, n + 1, hop, Or.inr ⟨cf_opp d, s, by unfold cf_opp; omega, cf_step_inv hd4 hsl e1, hn⟩⟩
                    · replace hq : (if q = p then true else sn q) = true := hq
                      rw [if_neg e] at hq; exact I.2.2.1 q hq
                  · by_cases e : f = p
                    · exact if_pos e
                    · show (if f = p then true else sn f) = true
                      rw [if_neg e]; exact I.2.2.2 q
                have gt : cf_ct1 sn < cf_ct1 (fun q => if q = p then true else sn q) := cf_ct1_lt (i := p) (fun q _ hq => by
                    by_cases e : q = p
                    · rw [if_pos e]
                    · rw [if_neg e]; exact hq) (by omega) y' (if_pos rfl)
                refine ihd (d + 1) (by omega) _ _ true I' (fun _ => ?_) (fun q => by cases q)
                cases b with
                | true => have := hb1 rfl; omega
                | false => have := (hb0 rfl).1; omega
              · rw [e1] at hp'; cases hp'
                rw [cf_cmp0, cf_ab (by omega)] at y2
                unfold cf_opn at ho
                rw [Bool.and_eq_true] at ho
                exfalso; apply y2
                have := ho.2
                revert this
                cases cf_has sh p <;> decide
              · rw [e1] at hp'; cases hp'
                rw [I.2.1 p (by omega)] at y
                exact cf_B_ne y
      refine w227_leads_r_60 ⟨fun z => ?_, fun _ => ?_⟩
      · rw [e2 hi sn I, cf_nle (by omega) (by omega)] at z; omega
      · exact d4 4 0 (by omega) hi sn b I hb1 (fun z => ⟨(hb0 z).1, (hb0 z).2, fun d' hd' => by omega⟩)
  -- all rounds
  have rounds : ∀ fuel hi sn, In hi sn → 64 ≤ cf_ct1 sn + fuel → rx_aw 227 49 [.ref 90, .int (nI f), .int (nI g), .long sh, rx_no, .int 1, rx_no, rx_no, rx_no] [] (rx_hp L t hi hl v) Qr := by
    intro fuel
    induction fuel with
    | zero =>
      intro hi sn I hfu
      refine w227_leads_r_49 ⟨fun z => absurd z (by decide), fun _ => pass (cf_ct1 sn) (fun hi' sn' _ hlt => ?_) (w * h) 0 (by omega) hi sn false I (fun z => by cases z) (fun _ => ⟨Nat.le_refl _, fun s' hs' => by omega⟩)⟩
      have := cf_ct1_le sn'; omega
    | succ fuel ih =>
      intro hi sn I hfu
      exact w227_leads_r_49 ⟨fun z => absurd z (by decide), fun _ => pass (cf_ct1 sn) (fun hi' sn' I' hlt => ih hi' sn' I' (by omega)) (w * h) 0 (by omega) hi sn false I (fun z => by cases z) (fun _ => ⟨Nat.le_refl _, fun s' hs' => by omega⟩)⟩
  -- the row at first
  have start : ∀ d i, i + d = 64 → ∀ hi : Nat → Nat → Int32, (∀ a b, ¬ a = 125 → hi a b = hi0 a b) → (∀ q, q < i → hi 125 q = cf_B (decide (q = f) && !cf_has sh q)) → rx_aw 227 3 [.ref 90, .int (nI f), .int (nI g), .long sh, rx_no, .int (nI i), rx_no, rx_no, rx_no] [] (rx_hp L t hi hl v) Qr := by
    intro d
    induction d with
    | zero =>
      intro i hid hi F W
      refine w227_leads_r_3 ⟨fun _ => rounds 64 hi (fun q => decide (q = f) && !cf_has sh q) ⟨F, fun q hq => W q (by omega), fun q hq => ?_, fun hq => ?_⟩ (by omega), fun z => absurd ?_ z⟩
      · rw [Bool.and_eq_true, decide_eq_true_iff] at hq
        have ho : cf_opn w h sh q = true := by unfold cf_opn; rw [decide_eq_true (by omega), hq.2]; rfl
        exact ⟨ho, 0, hq.1, ho⟩
      · unfold cf_opn at hq
        rw [Bool.and_eq_true] at hq
        show (decide (f = f) && !cf_has sh f) = true
        rw [decide_eq_true rfl, hq.2]; rfl
      · rw [show (64 : Int32) = nI 64 from rfl, cf_nle (by omega) (by omega)]; omega
    | succ d ih =>
      intro i hid hi F W
      have nx : ∀ b : Bool, b = (decide (i = f) && !cf_has sh i) → rx_aw 227 3 [.ref 90, .int (nI f), .int (nI g), .long sh, rx_no, .int (nI i + 1), rx_no, rx_no, rx_no] [] (rx_hp L t (rx_u hi 125 i (vp_nar .boolean (cf_B b))) hl v) Qr := by
        intro b hb
        rw [show nI i + 1 = nI (i + 1) from nI_add i 1, cf_nar]
        refine ih (i + 1) (by omega) _ (fun a c q => by rw [cf_ru_ne (by omega)]; exact F a c q) (fun q hq => ?_)
        by_cases e : q = i
        · subst e; rw [cf_ru_eq, hb]
        · rw [cf_ru_ne (by omega)]; exact W q (by omega)
      refine w227_leads_r_3 ⟨fun z => ?_, fun _ => ⟨fun z => c169 (by omega) ⟨fun y => ⟨i, rfl, by omega, nx true ?_⟩, fun y => ⟨i, rfl, by omega, nx false ?_⟩⟩, fun z => ⟨i, rfl, by omega, nx false ?_⟩⟩⟩
      · rw [show (64 : Int32) = nI 64 from rfl, cf_nle (by omega) (by omega)] at z; omega
      all_goals rw [nI_eq (by omega) (by omega)] at z
      · rw [cf_cmp0, cf_ab (by omega)] at y
        rw [decide_eq_true z, y]; rfl
      · rw [cf_cmp0, cf_ab (by omega), cf_not_true] at y
        rw [decide_eq_true z, Classical.not_not.mp y]; rfl
      · rw [decide_eq_false z]; rfl
  exact w227_leads_r (start 64 0 (by omega) hi0 (fun _ _ _ => rfl) (fun q hq => by omega))
end RXE
