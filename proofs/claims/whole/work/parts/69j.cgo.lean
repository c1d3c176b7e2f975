/-! Search.follow, go. -/
theorem cf_nar8 {m : Nat} (hm : m < 7) : vp_nar .byte ((Int32.toInt8 (nI m)).toInt32) = nI m := by
  have : ∀ i : Fin 7, vp_nar .byte ((Int32.toInt8 (nI i.val)).toInt32) = nI i.val := by decide +kernel
  exact this ⟨m, hm⟩
section RXE
variable {L : Nat} {t : List (Nat × Nat)} {v : Nat → Nat → Option Nat}
variable {RI : Int32 → (Nat → Nat → Int32) → (Nat → Nat → Int64) → (Nat → Nat → Option Nat) → Prop}
variable {RV : (Nat → Nat → Int32) → (Nat → Nat → Int64) → (Nat → Nat → Option Nat) → Prop}
theorem c82 {S : cf_S} {hi : Nat → Nat → Int32} {hl : Nat → Nat → Int64} (X : cf_XR S hi hl) {c : Nat} (hv8 : v 77 8 = some (rx_ct c)) (hc : c < S 0 2) {f n l : Nat} {sg mu : Nat → Nat} (hE : S 4 c ≤ f) (hn : f + n ≤ 400) (hl' : l ≤ S 0 3) (hsg : ∀ i, i ≤ n → cf_vs (S 0 0) (S 0 1) (cf_two (S 3 c)) (sg i) ∧ sg i < 256) (hmu : ∀ i, i < n → mu i < 5 ∧ cf_mv (S 0 0) (S 0 1) (cf_two (S 3 c)) (sg i) (mu i) = some (sg (i + 1))) (hnb : ∀ i, i < n → cf_nb (hl 81 (16 * (f + i) + sg i / 16)) (sg i % 16) (mu i))
    (k : ∀ hi2, (∀ a b, ¬ (a = 77 ∧ b = 13) → ¬ (a = rx_ct c + 1 ∧ f ≤ b ∧ b < f + n) → hi2 a b = hi a b) → (∀ i, i < n → hi2 (rx_ct c + 1) (f + i) = nI (mu i)) → hi2 77 13 = nI (l * 256 + sg n) → RV hi2 hl v) :
    rx_CV L t 82 [.ref 77, .int (nI (l * 256 + sg 0)), .int (nI f), .int (nI (f + n))] hi hl v RV := by
  have V := X.1.1
  have h6 := V.2.2.1
  have h12 := V.2.2.2.1
  have hkd := (V.2.2.2.2.2.2.1 c hc).1
  have loop : ∀ e i, i + e = n → ∀ hi2 : Nat → Nat → Int32, (∀ a b, ¬ (a = 77 ∧ b = 13) → ¬ (a = rx_ct c + 1 ∧ f ≤ b ∧ b < f + n) → hi2 a b = hi a b) → (∀ i', i' < i → hi2 (rx_ct c + 1) (f + i') = nI (mu i')) → hi2 77 13 = nI (l * 256 + sg i) →
      rx_aw 82 8 [.ref 77, .int (nI (l * 256 + sg 0)), .int (nI f), .int (nI (f + n)), .int (nI (f + i)), rx_no, rx_no] [] (rx_hp L t hi2 hl v) (fun r h2 => r = none ∧ rx_ok2 L t h2 RV) := by
    intro e
    induction e with
    | zero =>
      intro i hi0 hi2 F P e13
      have : i = n := by omega
      subst this
      exact w82_follow_8 ⟨fun _ => c_retV (k hi2 F P e13), fun g => absurd (nI_le (Nat.le_refl _) (by omega)) g⟩
    | succ e ih =>
      intro i hi0 hi2 F P e13
      obtain ⟨s1, s2⟩ := hsg i (by omega)
      obtain ⟨m1, m2⟩ := hmu i (by omega)
      have a255 : hi2 77 13 &&& (255 : Int32) = nI (sg i) := by
        rw [e13, show (255 : Int32) = nI 255 from rfl, cf_nand, cf_and255]; congr 1; omega
      have a15 : (4 : Int32) * ((hi2 77 13 &&& (255 : Int32)) &&& (15 : Int32)) = nI (4 * (sg i % 16)) := by
        rw [a255, show (15 : Int32) = nI 15 from rfl, cf_nand, show (4 : Int32) = nI 4 from rfl, cf_nmul, show sg i &&& 15 = sg i % 16 from Nat.and_two_pow_sub_one_eq_mod (sg i) 4]
      refine w82_follow_8 ⟨fun g => absurd g (nI_ge (by omega) (by omega)), fun _ => ⟨16 * (f + i) + sg i / 16, ?_, by omega, Or.inr ⟨c, by omega, hv8, f + i, rfl, by omega, Or.inr ⟨c, by omega, hv8, ?_⟩⟩⟩⟩
      · rw [a255, show (16 : Int32) = nI 16 from rfl, show (4 : Int32) = nI 4 from rfl, cf_nshr _ 4 (by omega) (by decide), cf_nmul, nI_add]
      rw [a15, cf_nb_get (by omega) m1 (hnb i (by omega)), cf_nar8 (by omega)]
      have F3 : ∀ a b, ¬ (a = 77 ∧ b = 13) → ¬ (a = rx_ct c + 1 ∧ f ≤ b ∧ b < f + n) → (rx_u hi2 (rx_ct c + 1) (f + i) (nI (mu i))) a b = hi a b := by
        intro a b q1 q2
        rw [cf_ru_ne (by omega)]; exact F a b q1 q2
      have X3 : cf_XR S (rx_u hi2 (rx_ct c + 1) (f + i) (nI (mu i))) hl := cf_XR_fs (c := c) (by omega) X (fun a b q1 q2 => F3 a b (by omega) (by omega)) (fun _ _ _ => rfl)
      have hg : ∀ q, q < 64 → (rx_u hi2 (rx_ct c + 1) (f + i) (nI (mu i))) 8 q = nI (S 1 q) ∧ S 1 q < 4 := fun q hq => ⟨X3.1.2.2.2.2.2.1 q hq, V.2.2.2.2.1 q⟩
      have hvs : cf_vs (S 0 0) (S 0 1) (cf_two (S 3 c)) (l * 256 + sg i) := by
        rw [← cf_vs_m, show (l * 256 + sg i) % 256 = sg i by omega]; exact s1
      rw [(X3.1.2.2.2.2.1.2.2.1 c hc).1, cf_ru_ne (by unfold rx_ct; omega), e13]
      refine c49 (l := 0) X3.1.2.1 X3.1.2.2.1 hg hkd hvs (by omega) (by omega) (by decide) ?_
      have eaf : cf_aft (S 0 0) (S 0 1) (S 1) (S 3 c) (l * 256 + sg i) (mu i) 0 = some (l * 256 + sg (i + 1)) := by
        unfold cf_aft
        rw [if_pos (by omega), ← cf_mv_m, show (l * 256 + sg i) % 256 = sg i by omega, m2, show (l * 256 + sg i) / 256 = l by omega]; rfl
      rw [eaf, nI_1]
      refine ih (i + 1) (by omega) _ (fun a b q1 q2 => ?_) (fun i' h1 => ?_) cf_ru_eq
      · rw [cf_ru_ne q1]; exact F3 a b q1 q2
      · rw [cf_ru_ne (by unfold rx_ct; omega)]
        by_cases ee : i' = i
        · subst ee; exact cf_ru_eq
        · rw [cf_ru_ne (by omega)]; exact P i' (by omega)
  refine w82_follow (loop n 0 (by omega) _ (fun a b q1 q2 => cf_ru_ne q1) (fun i' h => by omega) cf_ru_eq)
set_option maxRecDepth 100000 in
theorem cf_gp_iff {S : cf_S} (V : cf_V S) {st sp : Nat → Nat → Nat} {sd hd : Nat → Nat → Int64} {c f s tg wt i : Nat} {last : Bool} (h0 : cf_vs (S 0 0) (S 0 1) (cf_two (S 3 c)) s) : cf_gp S st sp sd hd c f s tg wt last i = true ↔ ∃ x, cf_lr (cf_may S (cf_gT S sp hd c (s / 256)) sd c) f (s % 256) i x = true ∧ cf_gl S st sp (cf_gL S sp hd c (s / 256)) c tg wt last x (f + i) = true := by
  unfold cf_gp
  rw [cf_any_iff]
  constructor
  · rintro ⟨r, hr, h⟩
    rw [Bool.and_eq_true] at h
    exact ⟨cf_dec r, h⟩
  · rintro ⟨x, h1, h2⟩
    have hx := (cf_lr_vs V ⟨cf_vs_m.mpr h0, by omega⟩ i x h1).2
    refine ⟨cf_enc x, by unfold cf_enc; omega, ?_⟩
    rw [cf_dec_enc hx, h1, h2]; rfl
set_option maxRecDepth 100000 in
theorem c64 {S : cf_S} {hi : Nat → Nat → Int32} {hl : Nat → Nat → Int64} (X : cf_XR S hi hl) {c f s tg wt : Nat} {last : Bool} (hc : c < S 0 2) (hE : S 4 c ≤ f) (hf : f ≤ 400) (hs : cf_vs (S 0 0) (S 0 1) (cf_two (S 3 c)) s) (hs2 : s / 256 ≤ S 0 3) (htg : tg < S 0 0 * S 0 1) (hwt : wt ≤ S 0 3) (h2f : cf_two (S 3 c) = true → f = S 4 c)
    (k0 : (¬ ((cf_std (S 0 0) (S 0 1) (cf_two (S 3 c)) s ||| (bif cf_two (S 3 c) then cf_hd S f c else 0)) &&& cf_blk S c (s / 256) f) = 0 ∨ cf_gn S (cf_st S) (cf_sp S) (cf_sd S) (cf_hd S) c f s tg wt last = 0) → ∀ hi2 hl2, (∀ a b, ¬ (77 ≤ a ∧ a ≤ 83) → hi2 a b = hi a b) → (∀ a b, ¬ (77 ≤ a ∧ a ≤ 83) → hl2 a b = hl a b) → RI (-1) hi2 hl2 (rx_u v 77 8 (some (rx_ct c))))
    (k1 : ((cf_std (S 0 0) (S 0 1) (cf_two (S 3 c)) s ||| (bif cf_two (S 3 c) then cf_hd S f c else 0)) &&& cf_blk S c (s / 256) f) = 0 → ∀ n, cf_gn S (cf_st S) (cf_sp S) (cf_sd S) (cf_hd S) c f s tg wt last = n + 1 → ∀ hi2 hl2, (∀ a b, ¬ (77 ≤ a ∧ a ≤ 83) → ¬ (a = rx_ct c + 1 ∧ f ≤ b ∧ b < f + n) → hi2 a b = hi a b) → (∀ a b, ¬ (77 ≤ a ∧ a ≤ 83) → hl2 a b = hl a b) → (∀ i, i < n → hi2 (rx_ct c + 1) (f + i) = nI (cf_gm S (cf_st S) (cf_sp S) (cf_sd S) (cf_hd S) c f s tg wt last n i)) → hi2 77 13 = nI (s / 256 * 256 + cf_pth S (cf_gT S (cf_sp S) (cf_hd S) c (s / 256)) (cf_sd S) c f (s % 256) n (fun x => cf_gl S (cf_st S) (cf_sp S) (cf_gL S (cf_sp S) (cf_hd S) c (s / 256)) c tg wt last x (f + n)) n) → RI (nI (f + n)) hi2 hl2 (rx_u v 77 8 (some (rx_ct c)))) :
    rx_CI L t 64 [.ref 77, .ref (rx_ct c), .int (nI s), .int (nI f), .int (nI tg), .int (oI wt), .int (cf_B last)] hi hl v RI := by
  have V := X.1.1
  have h6 := V.2.2.1
  have h12 := V.2.2.2.1
  have hwh := cf_V_wh V
  have hkd := (V.2.2.2.2.2.2.1 c hc).1
  have hsb : s < 2 ^ 20 := by omega
  have h0 : cf_vs (S 0 0) (S 0 1) (cf_two (S 3 c)) (s % 256) ∧ s % 256 < 256 := ⟨cf_vs_m.mpr hs, by omega⟩
  have F0 : ∀ a b, ¬ (77 ≤ a ∧ a ≤ 83) → (rx_u (rx_u (rx_u hi 77 10 (nI tg)) 77 11 (oI wt)) 77 12 (cf_B last)) a b = hi a b := by
    intro a b q
    rw [cf_ru_ne (by omega), cf_ru_ne (by omega), cf_ru_ne (by omega)]
  have X0 : cf_XR S (rx_u (rx_u (rx_u hi 77 10 (nI tg)) 77 11 (oI wt)) 77 12 (cf_B last)) hl := cf_XR_fs (c := 0) (by decide) X (fun a b q1 q2 => F0 a b q1) (fun _ _ _ => rfl)
  refine w64_go (by omega) ⟨cf_B01 _, c48 (by omega) (c65 X0 cf_ru_eq hc (by omega) (by omega) (fun hi1 hl1 F1 Fl1 e9 tb => ?_))⟩
  have FA : ∀ a b, ¬ (77 ≤ a ∧ a ≤ 83) → hi1 a b = hi a b := fun a b q => (F1 a b (by omega)).trans (F0 a b q)
  have FlA : ∀ a b, ¬ (77 ≤ a ∧ a ≤ 83) → hl1 a b = hl a b := fun a b q => Fl1 a b (by omega) (by omega)
  have X1 : cf_XR S hi1 hl1 := cf_XR_fs (c := 0) (by decide) X (fun a b q1 q2 => FA a b q1) FlA
  have CX : cf_CX S c (s / 256) f tg wt last hi1 hl1 (rx_u v 77 8 (some (rx_ct c))) := by
    refine ⟨X1, cf_ru_eq, ?_, ?_, ?_, e9, tb⟩
    · rw [F1 77 10 (by omega), cf_ru_ne (by omega), cf_ru_ne (by omega), cf_ru_eq]
    · rw [F1 77 11 (by omega), cf_ru_ne (by omega), cf_ru_eq]
    · rw [F1 77 12 (by omega), cf_ru_eq]
  have hclf : f ≤ cf_clm S c f := by unfold cf_clm; omega
  have e78 := (tb f (Nat.le_refl _) hclf).1
  rw [(X1.1.2.2.2.2.1.2.2.1 c hc).1]
  refine c42 X1.1.2.1 X1.1.2.2.1 hkd hs.1 ?_
  rw [(X1.1.2.2.2.2.1.2.2.1 c hc).1, cf_lt2 hkd]
  -- behind the test of the start
  have rest : ∀ x7 : Int64, ((cf_std (S 0 0) (S 0 1) (cf_two (S 3 c)) s ||| (bif cf_two (S 3 c) then cf_hd S f c else 0)) &&& cf_blk S c (s / 256) f) = 0 → rx_aw 64 84 [.ref 77, .ref (rx_ct c), .int (nI s), .int (nI f), .int (nI tg), .int (oI wt), .int (cf_B last), .long x7, rx_no, .int 0, rx_no] [] (rx_hp L t hi1 hl1 (rx_u v 77 8 (some (rx_ct c)))) (fun r h2 => ∃ z : Int32, r = some (.int z) ∧ rx_ok2 L t h2 (RI z)) := by
    intro x7 hst
    have hfr : (cf_std (S 0 0) (S 0 1) (cf_two (S 3 c)) (s % 256) &&& cf_gT S (cf_sp S) (cf_hd S) c (s / 256) f) = 0 := by
      rw [cf_std_m, cf_dj]
      intro p hp q
      have hpl := cf_std_in hwh hs p hp
      have := cf_dj.mp (cf_dj_or.mp hst).1 p hp
      rw [cf_blk_gT (by omega), q, Bool.or_true] at this
      exact this rfl
    generalize hTT : cf_gT S (cf_sp S) (cf_hd S) c (s / 256) = T at *
    generalize hLL : cf_gL S (cf_sp S) (cf_hd S) c (s / 256) = Lt at *
    -- the first layer is written
    have loop84 : ∀ e i, i + e = 4 → ∀ hl2 : Nat → Nat → Int64, (∀ a b, ¬ (a = 80 ∧ 4 * f ≤ b ∧ b < 4 * f + 4) → hl2 a b = hl1 a b) → (∀ d, d < i → ∀ q, q < 64 → cf_has (hl2 80 (4 * f + d)) q = decide (q + 64 * d = s % 256)) →
        rx_aw 64 84 [.ref 77, .ref (rx_ct c), .int (nI s), .int (nI f), .int (nI tg), .int (oI wt), .int (cf_B last), .long x7, rx_no, .int (nI i), rx_no] [] (rx_hp L t hi1 hl2 (rx_u v 77 8 (some (rx_ct c)))) (fun r h2 => ∃ z : Int32, r = some (.int z) ∧ rx_ok2 L t h2 (RI z)) := by
      intro e
      induction e with
      | zero =>
        intro i hi0 hl2 F G
        have : i = 4 := by omega
        subst this
        refine w64_go_84 (by omega) ⟨fun _ => ?_, fun g => absurd (by decide) g⟩
        have CX2 : cf_CX S c (s / 256) f tg wt last hi1 hl2 (rx_u v 77 8 (some (rx_ct c))) := cf_CX_fx CX ⟨fun _ _ _ => rfl, fun a b q => F a b (by omega)⟩
        have gpi : ∀ i, cf_gp S (cf_st S) (cf_sp S) (cf_sd S) (cf_hd S) c f s tg wt last i = true ↔ ∃ x, cf_lr (cf_may S (cf_gT S (cf_sp S) (cf_hd S) c (s / 256)) (cf_sd S) c) f (s % 256) i x = true ∧ cf_gl S (cf_st S) (cf_sp S) (cf_gL S (cf_sp S) (cf_hd S) c (s / 256)) c tg wt last x (f + i) = true := fun i => cf_gp_iff V hs
        refine c67 CX2 hc hE hf htg hwt h0 (by rw [hTT]; exact hfr) G gpi (fun hno hi3 hl3 F3 => ⟨fun g => absurd g (by decide), fun _ => c_retI (k0 (Or.inr hno) hi3 hl3 (fun a b q => (F3.1 a b (by omega)).trans (FA a b q)) (fun a b q => ((F3.2 a b (by omega)).trans (F a b (by omega))).trans (FlA a b q)))⟩) (fun n hn hi3 hl3 F3 Y3 Yn3 Z3 => ⟨fun _ => ?_, fun g => absurd (nI_le (Nat.zero_le _) (by have := (cf_gn_tl (show cf_gn S (cf_st S) (cf_sp S) (cf_sd S) (cf_hd S) c f s tg wt last = n + 1 from hn)).2; omega)) g⟩)
        obtain ⟨htl, hnb⟩ := cf_gn_tl (show cf_gn S (cf_st S) (cf_sp S) (cf_sd S) (cf_hd S) c f s tg wt last = n + 1 from hn)
        rw [hTT, hLL] at htl
        rw [hTT, hLL] at Yn3 Z3
        rw [hTT] at Y3
        generalize hgl : (fun x => cf_gl S (cf_st S) (cf_sp S) Lt c tg wt last x (f + n)) = gl at *
        have hgle : ∀ x, cf_gl S (cf_st S) (cf_sp S) Lt c tg wt last x (f + n) = gl x := fun x => by rw [← hgl]
        simp only [hgle] at Yn3 Z3
        generalize htle : cf_tl S T (cf_sd S) c f (s % 256) n gl = tl at *
        generalize hlre : cf_lr (cf_may S T (cf_sd S) c) f (s % 256) = lr at *
        have tl0 : ∀ x, tl 0 x = bif lr n x && gl x then 0 else 1000000 := by
          intro x; rw [← htle, cf_tl, hlre]
        have tlS : ∀ i, i < n → ∀ x, tl (n - i) x = bif lr i x then cf_bst S T (cf_sd S) (tl (n - (i + 1))) c (f + i) x 5 else 1000000 := by
          intro i hi x
          obtain ⟨j, hj⟩ : ∃ j, n - i = j + 1 := ⟨n - i - 1, by omega⟩
          rw [← htle, hj, cf_tl, hlre, show n - (j + 1) = i by omega, show n - (i + 1) = j by omega]
        have lrv : ∀ i x, lr i x = true → cf_vs (S 0 0) (S 0 1) (cf_two (S 3 c)) x ∧ x < 256 := fun i x h => cf_lr_vs V h0 i x (by rw [hlre]; exact h)
        have lrf : ∀ i, cf_lyv S c (s / 256) (f + i) (lr i) := by
          intro i x h
          have h' := h
          rw [← hlre] at h'
          refine ⟨(lrv i x h).1, (lrv i x h).2, ?_⟩
          rw [hTT]
          exact cf_lr_free V h0 hfr i x h'
        have tllr : ∀ i, i ≤ n → ∀ x, tl (n - i) x < 1000000 → lr i x = true := by
          intro i hi x h
          by_cases e : i = n
          · subst e
            rw [Nat.sub_self, tl0] at h
            cases hb : lr i x with
            | true => rfl
            | false => rw [hb] at h; exact absurd h (by simp)
          · rw [tlS i (by omega)] at h
            cases hb : lr i x with
            | true => rfl
            | false => rw [hb] at h; exact absurd h (by simp)
        -- from the arrival back
        have loop147 : ∀ i, i ≤ n → ∀ (hi4 : Nat → Nat → Int32) (hl4 : Nat → Nat → Int64), cf_fx hi1 hi4 hl1 hl4 → (∀ j, j < i → cf_LY hl4 (f + j) (lr j)) → cf_LY hl4 (f + i) (fun x => decide (tl (n - i) x < 1000000)) → (∀ x, tl (n - i) x < 1000000 → hi4 82 ((f + i) % 2 * 256 + x) = nI (tl (n - i) x)) →
            (∀ j, i ≤ j → j < n → ∀ x, tl (n - j) x < 1000000 → cf_nb (hl4 81 (16 * (f + j) + x / 16)) (x % 16) (cf_lm S T (cf_sd S) (tl (n - (j + 1))) c (f + j) x (tl (n - j) x) 5 - 1)) →
            rx_aw 64 147 [.ref 77, .ref (rx_ct c), .int (nI s), .int (nI f), .int (nI tg), .int (oI wt), .int (cf_B last), .long x7, rx_no, .int (nI (f + n)), .int (oI (f + i))] [] (rx_hp L t hi4 hl4 (rx_u v 77 8 (some (rx_ct c)))) (fun r h2 => ∃ z : Int32, r = some (.int z) ∧ rx_ok2 L t h2 (RI z)) := by
          intro i
          induction i with
          | zero =>
            intro _ hi4 hl4 F4 Y4 Yk4 Z4 N4
            have hlt : oI (f + 0) < nI f := by
              rw [cf_lt, cf_oI_toInt (by omega), nI_toInt (by omega)]; omega
            refine w64_go_147 (by omega) ⟨fun _ => ?_, fun g => absurd hlt g⟩
            have CX4 := cf_CX_fx CX F4
            have hok := cf_pth_ok (S := S) (T := T) (sd := cf_sd S) (c := c) (f := f) (s0 := s % 256) (n := n) (gl := gl) (fun i x h => (lrv i x (by rw [← hlre]; exact h)).2) (by rw [htle]; exact htl)
            have es : s = s / 256 * 256 + cf_pth S T (cf_sd S) c f (s % 256) n gl 0 := by
              show s = s / 256 * 256 + s % 256
              omega
            have fol := c82 (L := L) (t := t) (v := rx_u v 77 8 (some (rx_ct c))) (f := f) (n := n) (l := s / 256) (sg := cf_pth S T (cf_sd S) c f (s % 256) n gl) (mu := cf_pmv S T (cf_sd S) c f (s % 256) n gl) (RV := fun hi20 hl20 v20 => ∃ z : Int32, some (Value.int (nI (f + n))) = some (.int z) ∧ rx_ok2 L t (rx_hp L t hi20 hl20 v20) (RI z)) CX4.1 cf_ru_eq hc hE (by omega) hs2 (fun i hi0 => lrv i _ (by rw [← hlre]; exact (hok i hi0).1)) (fun i hi0 => ⟨((hok i (by omega)).2.2 hi0).1, (cf_may_iff.mp ((hok i (by omega)).2.2 hi0).2.1).1⟩) (fun i hi0 => ?_) (fun hi5 F5 P5 e13 => c_retI (k1 hst n hn hi5 hl4 (fun a b q1 q2 => ?_) (fun a b q => (F4.2 a b (by omega)).trans (FlA a b q)) ?_ ?_))
            · rw [← es] at fol
              exact fol
            · have h1 := (hok i (by omega)).2.1
              rw [htle] at h1
              have := N4 i (Nat.zero_le _) hi0 _ h1
              rw [← htle] at this
              exact this
            · rw [F5 a b (by omega) q2, F4.1 a b (by omega)]; exact FA a b q1
            · intro i hi0
              rw [P5 i hi0]
              unfold cf_gm
              rw [hTT, hLL, hgl]
            · rw [e13, hgl]
          | succ i ih =>
            intro hin hi4 hl4 F4 Y4 Yk4 Z4 N4
            rw [← Nat.add_assoc, cf_oS]
            refine w64_go_147 (by omega) ⟨fun g => absurd g (nI_nlt (by omega) (by omega)), fun _ => ?_⟩
            have CX4 := cf_CX_fx CX F4
            have KP : cf_KP S c (s / 256) (f + i) (fun x => decide (tl (n - (i + 1)) x < 1000000)) (tl (n - (i + 1))) hi4 hl4 := by
              refine ⟨fun x hx => ?_, Yk4, fun r => decide_eq_true_iff, fun r hr => Z4 r (of_decide_eq_true hr)⟩
              have := lrf (i + 1) x (tllr (i + 1) hin x (of_decide_eq_true hx))
              exact this
            refine c77 CX4 hc hE hf (by omega) (by omega) (lrf i) (Y4 i (by omega)) KP (fun hi5 hl5 F5 Fl5 Y5 P5 => ?_)
            rw [hTT] at Y5 P5
            rw [cf_addm]
            have ebs : ∀ x, lr i x = true → cf_bst S T (cf_sd S) (tl (n - (i + 1))) c (f + i) x 5 = tl (n - i) x := by
              intro x hx
              rw [tlS i (by omega), hx]; rfl
            refine ih (by omega) hi5 hl5 (cf_fx_t F4 ⟨fun a b q => F5 a b (by omega), fun a b q => Fl5 a b (by omega) (by omega) (by omega)⟩) (fun j hj d hd q hq => ?_) (fun d hd q hq => ?_) (fun x hx => ?_) (fun j h1 h2 x hx => ?_)
            · rw [Fl5 80 _ (by omega) (by omega) (by omega)]
              exact Y4 j (by omega) d hd q hq
            · rw [Y5 d hd q hq]
              dsimp only
              cases hb : lr i (q + 64 * d) with
              | true => rw [ebs _ hb, Bool.true_and]
              | false => rw [Bool.false_and, tlS i (by omega), hb, cond_false]; rfl
            · have hlx := tllr i (by omega) x hx
              have hx2 := hx
              rw [← ebs x hlx] at hx2
              rw [(P5 x hlx hx2).1, ebs x hlx]
            · by_cases ee : j = i
              · subst ee
                have hlx := tllr j (by omega) x hx
                have hx2 := hx
                rw [← ebs x hlx] at hx2
                have := (P5 x hlx hx2).2
                rw [ebs x hlx] at this
                exact this
              · have hlx := (lrv j x (tllr j (by omega) x hx)).2
                rw [Fl5 81 _ (by omega) (by omega) (by omega)]
                exact N4 j (by omega) h2 x hx
        have fin := loop147 n (Nat.le_refl _) hi3 hl3 (cf_fx_t ⟨fun _ _ _ => rfl, fun a b q => F a b (by omega)⟩ F3) Y3 (fun d hd q hq => ?_) (fun x hx => ?_) (fun j h1 h2 => by omega)
        · have e1 : nI (f + n) - (1 : Int32) = oI (f + n) := rfl
          rw [e1]; exact fin
        · rw [Yn3 d hd q hq, Nat.sub_self]
          dsimp only
          rw [tl0]
          cases lr n (q + 64 * d) && gl (q + 64 * d) <;> rfl
        · rw [Nat.sub_self, tl0] at hx ⊢
          cases hb : (lr n x && gl x) with
          | false => rw [hb] at hx; exact absurd hx (by simp)
          | true =>
            rw [Bool.and_eq_true] at hb
            exact Z3 x hb.1 hb.2
      | succ e ih =>
        intro i hi0 hl2 F G
        have store : ∀ x : Int64, (∀ q, q < 64 → cf_has x q = decide (q + 64 * i = s % 256)) → rx_aw 64 84 [.ref 77, .ref (rx_ct c), .int (nI s), .int (nI f), .int (nI tg), .int (oI wt), .int (cf_B last), .long x7, rx_no, .int (nI i + 1), rx_no] [] (rx_hp L t hi1 (rx_u hl2 80 (4 * f + i) x) (rx_u v 77 8 (some (rx_ct c)))) (fun r h2 => ∃ z : Int32, r = some (.int z) ∧ rx_ok2 L t h2 (RI z)) := by
          intro x hx
          rw [nI_1]
          refine ih (i + 1) (by omega) _ (fun a b q => by rw [cf_ru_ne (by omega)]; exact F a b q) (fun d hd q hq => ?_)
          by_cases ee : d = i
          · subst ee; rw [cf_ru_eq]; exact hx q hq
          · rw [cf_ru_ne (by omega)]; exact G d (by omega) q hq
        refine w64_go_84 (by omega) ⟨fun g => ?_, fun _ => c16 (by omega) ⟨fun g => c8 (c9 (by omega) ⟨4 * f + i, cf_4i, by omega, store _ (fun q hq => ?_)⟩), fun g => ⟨4 * f + i, cf_4i, by omega, store _ (fun q hq => ?_)⟩⟩⟩
        · rw [show (4 : Int32) = nI 4 from rfl] at g; exact absurd g (nI_ge (by omega) (by decide))
        · rw [nI_eq (by omega) (by omega)] at g
          rw [cf_hbt, decide_eq_true (show s % 64 < 64 by omega), Bool.true_and]
          congr 1
          apply propext
          omega
        · rw [nI_eq (by omega) (by omega)] at g
          rw [cf_h0, decide_eq_false (by omega)]
    exact loop84 4 0 (by omega) hl1 (fun _ _ _ => rfl) (fun d hd => by omega)
  refine ⟨fun g => ⟨f, rfl, by omega, fun g2 => rest _ ?_, fun g2 => c_retI (k0 (Or.inl ?_) hi1 hl1 FA FlA)⟩, fun g => ⟨f, rfl, by omega, f, rfl, by omega, fun g2 => rest _ ?_, fun g2 => c_retI (k0 (Or.inl ?_) hi1 hl1 FA FlA)⟩⟩
  · rw [cf_cmp0, e78] at g2
    rw [cf_not_true.mpr g] at g2 ⊢
    rw [cond_false, cf_or0]; exact g2
  · rw [cf_cmp0, e78] at g2
    rw [cf_not_true.mpr g] at g2 ⊢
    rw [cond_false, cf_or0]; exact g2
  · have h2 := Classical.not_not.mp g
    have hfs : f ≤ cf_set S := by
      rw [h2f h2]; unfold cf_set
      have := cf_le_mx (f := S 4) hc
      omega
    rw [cf_cmp0, e78, ((X1.2.2.1 c hc).1 f hfs).2.2] at g2
    rw [h2, cond_true]; rw [h2] at g2; exact g2
  · have h2 := Classical.not_not.mp g
    have hfs : f ≤ cf_set S := by
      rw [h2f h2]; unfold cf_set
      have := cf_le_mx (f := S 4) hc
      omega
    rw [cf_cmp0, e78, ((X1.2.2.1 c hc).1 f hfs).2.2] at g2
    rw [h2, cond_true]; rw [h2] at g2; exact g2
end RXE
