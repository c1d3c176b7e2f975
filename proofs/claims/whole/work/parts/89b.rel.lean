/-! Behind the constructors both are at rest. -/
/-- the state of a new floor -/
def cf_S0 (w h : Nat) : cf_S := fun a b => if a = 0 then (if b = 0 then w else if b = 1 then h else 0) else 0
theorem cf_S0_V {w h : Nat} (hw : 2 ≤ w ∧ w ≤ 8) (hh : 2 ≤ h ∧ h ≤ 8) : cf_V (cf_S0 w h) :=
  ⟨hw, hh, Nat.zero_le _, Nat.zero_le _, fun _ => (by decide : (0 : Nat) < 4), fun _ => Nat.zero_le _, fun c hc => absurd hc (Nat.not_lt_zero c), fun s hs => absurd hs (Nat.not_lt_zero s)⟩
theorem cf_S0_bar (w h : Nat) : cf_bar (cf_S0 w h) = 0 := by
  apply cf_ext
  intro q hq
  unfold cf_bar
  rw [cf_has_un, cf_h0]
  refine cf_any_false (fun i hi => ?_)
  have e : cf_isb (cf_S0 w h) i = false := rfl
  rw [e]
  exact cf_h0 q
section RXC
variable {w h : Nat} {xs : Nat → Int32} {hi2 : Nat → Nat → Int32} {hl2 : Nat → Nat → Int64} {X Y : Int32}
/-- the script alone -/
def lw_hi (xs : Nat → Int32) : Nat → Nat → Int32 := fun i => if i = 0 then xs else fun _ => 0
def lw_hf (hi2 : Nat → Nat → Int32) (X Y : Int32) : Nat → Nat → Int32 := k159I (rx_row (k1bi12 hi2) 90 (fun _ => 0)) X Y
def lw_lf (hl2 : Nat → Nat → Int64) : Nat → Nat → Int64 := k159l43 (rx_row (k1bl12 hl2) 90 (fun _ => 0))
set_option maxRecDepth 100000 in
theorem lw_A (hw : 2 ≤ w ∧ w ≤ 8) (hh : 2 ≤ h ∧ h ≤ 8) {hi0 : Nat → Nat → Int32} (F : cf_FL w h hi0 hi2 hl2) : cf_A (cf_S0 w h) 0 (lw_hf hi2 X Y) (lw_lf hl2) := by
  obtain ⟨_, K1, K2, K3, G1, G2, B⟩ := F
  have c0 : ∀ c, ¬ c < (cf_S0 w h) 0 2 := fun c hc => absurd hc (Nat.not_lt_zero c)
  have s0 : ∀ c, ¬ c < (cf_S0 w h) 0 3 := fun c hc => absurd hc (Nat.not_lt_zero c)
  refine ⟨⟨⟨cf_S0_V hw hh, cf_K1_u K1 (fun b => rfl), cf_K2_eq K2 (fun b => rfl) (fun b => rfl) (fun b => rfl), cf_K3_u K3 (fun b => rfl), ⟨rfl, rfl, fun c hc => absurd hc (c0 c), fun s hs => absurd hs (s0 s)⟩, fun q _ => ?_, fun y _ => ?_, ?_⟩, Or.inr ⟨rfl, rfl, rfl⟩, fun c hc => absurd hc (c0 c), fun s hs => absurd hs (s0 s)⟩, fun c hc b _ => ?_, rfl⟩
  · exact (show lw_hf hi2 X Y 8 q = hi2 8 q from rfl).trans (G1 q)
  · exact (show lw_hf hi2 X Y 9 y = hi2 9 y from rfl).trans (G2 y)
  · exact ((show lw_lf hl2 7 10 = hl2 7 10 from rfl).trans B).trans (cf_S0_bar w h).symm
  · have e : lw_hf hi2 X Y (rx_ct c + 1) b = 0 ∧ lw_hf hi2 X Y (rx_ct c + 2) b = 0 := by
      match c, hc with
      | 0, _ => exact ⟨rfl, rfl⟩
      | 1, _ => exact ⟨rfl, rfl⟩
      | 2, _ => exact ⟨rfl, rfl⟩
      | 3, _ => exact ⟨rfl, rfl⟩
      | 4, _ => exact ⟨rfl, rfl⟩
      | 5, _ => exact ⟨rfl, rfl⟩
      | n + 6, z => exact absurd z (by omega)
    rw [e.1, e.2]
    exact ⟨by decide, by decide⟩
set_option maxRecDepth 100000 in
theorem lw_RM (hw : 2 ≤ w ∧ w ≤ 8) (hh : 2 ≤ h ∧ h ≤ 8) (ex : rx_clm X = nI w) (ey : rx_clm Y = nI h) : cf_RM (cf_S0 w h) (lw_hf hi2 X Y) (lw_lf hl2) ∧ lw_hf hi2 X Y 90 48 = nI 0 := by
  have c0 : ∀ c, ¬ c < (cf_S0 w h) 0 2 := fun c hc => absurd hc (Nat.not_lt_zero c)
  have s0 : ∀ c, ¬ c < (cf_S0 w h) 0 3 := fun c hc => absurd hc (Nat.not_lt_zero c)
  refine ⟨⟨cf_S0_V hw hh, fun c s hc => absurd hc (c0 c), ⟨⟨hw.1, hw.2, hh.1, hh.2, ?_, ?_, ?_⟩, rfl, rfl, fun q _ => rfl, fun y _ => rfl, fun c hc => absurd hc (c0 c), fun s hs => absurd hs (s0 s)⟩, ⟨rfl, 0, rfl, by decide⟩, fun c hc => absurd hc (c0 c), fun s hs => absurd hs (s0 s)⟩, rfl⟩
  · exact (show lw_hf hi2 X Y 90 0 = rx_clm X from rfl).trans ex
  · exact (show lw_hf hi2 X Y 90 1 = rx_clm Y from rfl).trans ey
  · refine (show lw_hf hi2 X Y 90 2 = rx_clm X * rx_clm Y from rfl).trans ?_
    rw [ex, ey, cf_nmul]
    rfl
set_option maxRecDepth 100000 in
theorem lw_E (F : cf_FL w h (k1ai8 (rx_row (lw_hi xs) 1 (fun _ => 0))) hi2 hl2) : cf_E (cf_S0 w h) [] (lw_hf hi2 X Y) rx_rfin := by
  obtain ⟨F, _⟩ := F
  have b0 : fits .byte (.int 0) = true := by decide
  have e18 : lw_hf hi2 X Y 1 8 = 0 := ((show lw_hf hi2 X Y 1 8 = hi2 1 8 from rfl).trans (F 1 8 (by omega))).trans rfl
  have e3 : ∀ j, lw_hf hi2 X Y 3 j = 0 := fun j => ((show lw_hf hi2 X Y 3 j = hi2 3 j from rfl).trans (F 3 j (by omega))).trans rfl
  have e4 : ∀ j, lw_hf hi2 X Y 4 j = 0 := fun j => ((show lw_hf hi2 X Y 4 j = hi2 4 j from rfl).trans (F 4 j (by omega))).trans rfl
  have e52 : lw_hf hi2 X Y 5 2 = -1 := ((show lw_hf hi2 X Y 5 2 = hi2 5 2 from rfl).trans (F 5 2 (by omega))).trans rfl
  have e85 : ∀ j, lw_hf hi2 X Y 85 j = 0 := fun j => rfl
  have e89 : ∀ j, lw_hf hi2 X Y 89 j = 0 := fun j => rfl
  have e110 : ∀ j, lw_hf hi2 X Y 110 j = 0 := fun j => rfl
  have e111 : ∀ j, lw_hf hi2 X Y 111 j = 0 := fun j => rfl
  have e112 : ∀ j, lw_hf hi2 X Y 112 j = 0 := fun j => rfl
  have e905 : lw_hf hi2 X Y 90 5 = 0 := rfl
  have e9030 : lw_hf hi2 X Y 90 30 = -1 := rfl
  refine ⟨e905.trans e18.symm, ⟨⟨0, by omega, rfl, rfl, fun j hj => absurd hj (Nat.not_lt_zero j)⟩, fun j _ => ?_⟩, fun j _ => ⟨(e110 j).trans (e3 j).symm, (e111 j).trans (e4 j).symm, Or.inl (e3 j)⟩, ⟨fun y x _ _ => ⟨(e112 _).trans (e89 _).symm, fun _ => e89 _⟩, fun j _ => ?_⟩, Or.inl ⟨e52, e9030⟩, Or.inl ⟨rfl, by decide +kernel⟩⟩
  · rw [e85]; exact b0
  · rw [e89]; exact b0
theorem lw_rel (hw : 2 ≤ w ∧ w ≤ 8) (hh : 2 ≤ h ∧ h ≤ 8) (ex : rx_clm X = nI w) (ey : rx_clm Y = nI h) (F : cf_FL w h (k1ai8 (rx_row (lw_hi xs) 1 (fun _ => 0))) hi2 hl2) : cf_Rel [] (lw_hf hi2 X Y) (lw_lf hl2) rx_rfin :=
  ⟨cf_S0 w h, 0, cf_Ir_0 (cf_S0_V hw hh) rfl rfl (by omega), lw_A hw hh F, lw_RM hw hh ex ey, lw_E F⟩
set_option maxRecDepth 100000 in
theorem lw_h0 (F : cf_FL w h (k1ai8 (rx_row (lw_hi xs) 1 (fun _ => 0))) hi2 hl2) (b : Nat) : lw_hf hi2 X Y 0 b = xs b :=
  ((show lw_hf hi2 X Y 0 b = hi2 0 b from rfl).trans (F.1 0 b (by omega))).trans rfl
end RXC
theorem rx_tk133 (L : Nat) : rx_tk L 133 = rx_sh L [] := by
  have e : rx_s1.take 133 = rx_s1 ++ [] := by decide +kernel
  unfold rx_tk rx_sh
  rw [e]
/-- the law's run, from its start; the references of cells that aren't made yet may be what they will -/
theorem lw_run {L : Nat} {xs : Nat → Int32} (hL : L ≤ 3074) : rx_aw 0 0 [.ref 0, rx_no, rx_no, rx_no] [] (rx_tk L 0, lw_hi xs, (fun _ _ => 0), rx_fixd) (lw_F L) := by
  refine lw_c hL (fun w h hi2 hl2 ex ey F => ?_)
  have hw : 2 ≤ w ∧ w ≤ 8 := ⟨F.2.1.1, F.2.1.2.1⟩
  have hh : 2 ≤ h ∧ h ≤ 8 := ⟨F.2.1.2.2.1, F.2.1.2.2.2.1⟩
  have lp := lw_loop (xs := xs) hL L 2 (by omega) (by omega) [] _ _ rx_rfin (lw_rel hw hh ex ey F) (lw_h0 F)
  unfold rx_hp at lp
  rw [rx_rf_hr, ← rx_tk133] at lp
  exact lp
