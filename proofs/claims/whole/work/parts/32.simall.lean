/-! Every step of the small machine is one of the machine. -/
theorem rx_ild_inv {pc i n : Nat} {ls st : List Value} {h : rx_H} {g : rx_C} (e : rx_ild pc i n ls st h = some g) : ∃ x, ls[i]? = some (.int x) ∧ g = (pc + n, ls, .int x :: st, h) := by
  unfold rx_ild at e
  split at e
  · rename_i x hx; cases e; exact ⟨x, hx, rfl⟩
  · cases e
theorem rx_lld_inv {pc i n : Nat} {ls st : List Value} {h : rx_H} {g : rx_C} (e : rx_lld pc i n ls st h = some g) : ∃ x, ls[i]? = some (.long x) ∧ g = (pc + n, ls, .long x :: st, h) := by
  unfold rx_lld at e
  split at e
  · rename_i x hx; cases e; exact ⟨x, hx, rfl⟩
  · cases e
theorem rx_ald_inv {pc i n : Nat} {ls st : List Value} {h : rx_H} {g : rx_C} (e : rx_ald pc i n ls st h = some g) : (∃ x, ls[i]? = some (.ref x) ∧ g = (pc + n, ls, .ref x :: st, h)) ∨ (ls[i]? = some .null ∧ g = (pc + n, ls, .null :: st, h)) := by
  unfold rx_ald at e
  split at e
  · rename_i x hx; cases e; exact Or.inl ⟨x, hx, rfl⟩
  · rename_i hx; cases e; exact Or.inr ⟨hx, rfl⟩
  · cases e
theorem rx_bif {α : Type} {b : Bool} {x : Option α} {g : α} (e : (bif b then x else none) = some g) : b = true ∧ x = some g := by
  cases b with
  | true => exact ⟨rfl, e⟩
  | false => cases e
theorem rx_blt {a b : Nat} (h : Nat.blt a b = true) : a < b := Nat.le_of_ble_eq_true h
theorem rx_pos1 {i : Nat} (h : Nat.blt 0 i = true) : ∃ z, i = z + 1 := ⟨i - 1, by have := rx_blt h; omega⟩
theorem rx_ist_inv {pc i n : Nat} {ls st : List Value} {h : rx_H} {g : rx_C} (e : rx_ist pc i n ls st h = some g) : ∃ x r, st = .int x :: r ∧ i < ls.length ∧ g = (pc + n, rx_st1 ls i (.int x), r, h) := by
  unfold rx_ist at e
  split at e
  · obtain ⟨e1, e2⟩ := rx_bif e; cases e2; exact ⟨_, _, rfl, rx_blt e1, rfl⟩
  · cases e
theorem rx_lst_inv {pc i n : Nat} {ls st : List Value} {h : rx_H} {g : rx_C} (e : rx_lst pc i n ls st h = some g) : ∃ x r, st = .long x :: r ∧ i + 1 < ls.length ∧ g = (pc + n, rx_st2 ls i (.long x), r, h) := by
  unfold rx_lst at e
  split at e
  · obtain ⟨e1, e2⟩ := rx_bif e; cases e2; exact ⟨_, _, rfl, rx_blt e1, rfl⟩
  · cases e
theorem rx_ast_inv {pc i n : Nat} {ls st : List Value} {h : rx_H} {g : rx_C} (e : rx_ast pc i n ls st h = some g) : (∃ x r, st = .ref x :: r ∧ i < ls.length ∧ g = (pc + n, rx_st1 ls i (.ref x), r, h)) ∨ (∃ r, st = .null :: r ∧ i < ls.length ∧ g = (pc + n, rx_st1 ls i .null, r, h)) := by
  unfold rx_ast at e
  split at e
  · obtain ⟨e1, e2⟩ := rx_bif e; cases e2; exact Or.inl ⟨_, _, rfl, rx_blt e1, rfl⟩
  · obtain ⟨e1, e2⟩ := rx_bif e; cases e2; exact Or.inr ⟨_, rfl, rx_blt e1, rfl⟩
  · cases e
theorem rx_i2_inv {f : Int32 → Int32 → Int32} {pc : Nat} {ls st : List Value} {h : rx_H} {g : rx_C} (e : rx_i2 f pc ls st h = some g) : ∃ x y r, st = .int y :: .int x :: r ∧ g = (pc + 1, ls, .int (f x y) :: r, h) := by
  unfold rx_i2 at e
  split at e
  · cases e; exact ⟨_, _, _, rfl, rfl⟩
  · cases e
theorem rx_l2_inv {f : Int64 → Int64 → Int64} {pc : Nat} {ls st : List Value} {h : rx_H} {g : rx_C} (e : rx_l2 f pc ls st h = some g) : ∃ x y r, st = .long y :: .long x :: r ∧ g = (pc + 1, ls, .long (f x y) :: r, h) := by
  unfold rx_l2 at e
  split at e
  · cases e; exact ⟨_, _, _, rfl, rfl⟩
  · cases e
theorem rx_br1_inv {f : Int32 → Bool} {pc : Nat} {off : Int} {ls st : List Value} {h : rx_H} {g : rx_C} (e : rx_br1 f pc off ls st h = some g) : ∃ x r, st = .int x :: r ∧ g = (bif f x then rx_to pc off else pc + 3, ls, r, h) := by
  unfold rx_br1 at e
  split at e
  · cases e; exact ⟨_, _, rfl, rfl⟩
  · cases e
theorem rx_br2_inv {f : Int32 → Int32 → Bool} {pc : Nat} {off : Int} {ls st : List Value} {h : rx_H} {g : rx_C} (e : rx_br2 f pc off ls st h = some g) : ∃ x y r, st = .int y :: .int x :: r ∧ g = (bif f x y then rx_to pc off else pc + 3, ls, r, h) := by
  unfold rx_br2 at e
  split at e
  · cases e; exact ⟨_, _, _, rfl, rfl⟩
  · cases e
theorem rx_vi (h : rx_H) (i : Nat) {t n : Nat} (g : h.1[i]? = some (t, n)) : rx_kind h i = t ∧ rx_len h i = n := by
  unfold rx_kind rx_len; rw [g]; exact ⟨rfl, rfl⟩
section RXZ
variable {p : Program} {l : Launch} {e : Env} {R : Room} {s : State} {m : MethodId} {args : Array Value} {below : List Frame} {meth : Method} {c : Code} {Q : State → Prop} {D : va_G} {dA : Nat → ClassId} {b base c0 s0 nL : Nat}
theorem rx_put_int {ad : Nat → Nat} {c k : Nat} {x : Int32} (h : rx_kd (rx_ty c k) = 0) : narrow (rx_ty c k) (rx_mv ad (.int x)) = rx_mv ad (.int x) ∧ fits (rx_ty c k) (rx_mv ad (.int x)) = true := by
  cases ht : rx_ty c k <;> rw [ht] at h <;> first | exact ⟨rfl, rfl⟩ | (simp [rx_kd] at h)
theorem rx_put_long {ad : Nat → Nat} {c k : Nat} {x : Int64} (h : rx_kd (rx_ty c k) = 1) : narrow (rx_ty c k) (rx_mv ad (.long x)) = rx_mv ad (.long x) ∧ fits (rx_ty c k) (rx_mv ad (.long x)) = true := by
  cases ht : rx_ty c k <;> rw [ht] at h <;> first | exact ⟨rfl, rfl⟩ | (simp [rx_kd] at h)
theorem rx_put_ref {ad : Nat → Nat} {c k x : Nat} (h : rx_kd (rx_ty c k) = 2) : narrow (rx_ty c k) (rx_mv ad (.ref x)) = rx_mv ad (.ref x) ∧ fits (rx_ty c k) (rx_mv ad (.ref x)) = true := by
  cases ht : rx_ty c k <;> rw [ht] at h <;> first | exact ⟨rfl, rfl⟩ | (simp [rx_kd] at h)
theorem rx_put_nul {ad : Nat → Nat} {c k : Nat} (h : rx_kd (rx_ty c k) = 2) : narrow (rx_ty c k) (rx_mv ad .null) = rx_mv ad .null ∧ fits (rx_ty c k) (rx_mv ad .null) = true := by
  cases ht : rx_ty c k <;> rw [ht] at h <;> first | exact ⟨rfl, rfl⟩ | (simp [rx_kd] at h)
theorem rx_put_bool {ad : Nat → Nat} {c k : Nat} {x : Int32} (h : rx_kd (rx_ty c k) = 3) (hx : x = 0 ∨ x = 1) : narrow (rx_ty c k) (rx_mv ad (.int x)) = rx_mv ad (.int x) ∧ fits (rx_ty c k) (rx_mv ad (.int x)) = true := by
  rcases hx with rfl | rfl <;> cases ht : rx_ty c k <;> rw [ht] at h <;> first | exact ⟨rfl, rfl⟩ | exact ⟨by decide +kernel, by decide +kernel⟩ | (simp [rx_kd] at h)
theorem rx_put_fv_i {ad : Nat → Nat} {h : rx_H} {i f q : Nat} {x : Int32} (hk : rx_kd (rx_ty (f / 64) (f % 64)) = 0 ∨ rx_kd (rx_ty (f / 64) (f % 64)) = 3) : rx_fv ad (rx_si h i (f % 64) x) i (f / 64) q = if q = f % 64 then rx_mv ad (.int x) else rx_fv ad h i (f / 64) q := by
  by_cases hq : q = f % 64
  · rw [if_pos hq, hq]
    unfold rx_fv
    have e : (rx_si h i (f % 64) x).2.1 i (f % 64) = x := by
      show rx_u h.2.1 i (f % 64) x i (f % 64) = x
      rw [rx_u_eq]; exact if_pos rfl
    rcases hk with hk | hk <;> rw [hk] <;> rw [e] <;> rfl
  · rw [if_neg hq]
    unfold rx_fv
    have e : (rx_si h i (f % 64) x).2.1 i q = h.2.1 i q := by
      show rx_u h.2.1 i (f % 64) x i q = _
      rw [rx_u_eq]; exact if_neg hq
    rw [e]
    rfl
theorem rx_put_fv_l {ad : Nat → Nat} {h : rx_H} {i f q : Nat} {x : Int64} (hk : rx_kd (rx_ty (f / 64) (f % 64)) = 1) : rx_fv ad (rx_sl h i (f % 64) x) i (f / 64) q = if q = f % 64 then rx_mv ad (.long x) else rx_fv ad h i (f / 64) q := by
  by_cases hq : q = f % 64
  · rw [if_pos hq, hq]
    unfold rx_fv
    have e : (rx_sl h i (f % 64) x).2.2.1 i (f % 64) = x := by
      show rx_u h.2.2.1 i (f % 64) x i (f % 64) = x
      rw [rx_u_eq]; exact if_pos rfl
    rw [hk, e]
    rfl
  · rw [if_neg hq]
    unfold rx_fv
    have e : (rx_sl h i (f % 64) x).2.2.1 i q = h.2.2.1 i q := by
      show rx_u h.2.2.1 i (f % 64) x i q = _
      rw [rx_u_eq]; exact if_neg hq
    rw [e]
    rfl
theorem rx_put_fv_r {ad : Nat → Nat} {h : rx_H} {i f q : Nat} (x : Option Nat) (hk : rx_kd (rx_ty (f / 64) (f % 64)) = 2) : rx_fv ad (rx_sr h i (f % 64) x) i (f / 64) q = if q = f % 64 then rx_mv ad (va_rf x) else rx_fv ad h i (f / 64) q := by
  by_cases hq : q = f % 64
  · rw [if_pos hq, hq]
    unfold rx_fv
    have e : (rx_sr h i (f % 64) x).2.2.2 i (f % 64) = x := by
      show rx_u h.2.2.2 i (f % 64) x i (f % 64) = x
      rw [rx_u_eq]; exact if_pos rfl
    rw [hk, e, rx_mv_rf]
    rfl
  · rw [if_neg hq]
    unfold rx_fv
    have e : (rx_sr h i (f % 64) x).2.2.2 i q = h.2.2.2 i q := by
      show rx_u h.2.2.2 i (f % 64) x i q = _
      rw [rx_u_eq]; exact if_neg hq
    rw [e]
    rfl
set_option maxHeartbeats 4000000 in
/-- every step -/
theorem rx_step {j pc : Nat} {i : Instr} {ls st : List Value} {h : rx_H} {g : rx_C} (C : rx_at j p R s m args meth c base c0 nL) (hP : rx_P j pc = some i) (hex : rx_ex i pc ls st h = some g) (hR : g.2.2.2.1.length ≤ R.cells + c0 ∧ rx_us g.2.2.2 ≤ R.slots + s0) (k : rx_K p l e R s m args below meth c Q D dA b base c0 s0 nL g) : rx_K p l e R s m args below meth c Q D dA b base c0 s0 nL (pc, ls, st, h) := by
  cases i with
  | iload i =>
    obtain ⟨x, h1, rfl⟩ := rx_ild_inv hex
    exact rx_s_iload h1 C hP k
  | iload_n i =>
    obtain ⟨x, h1, rfl⟩ := rx_ild_inv hex
    exact rx_s_iload_n h1 C hP k
  | lload i =>
    obtain ⟨x, h1, rfl⟩ := rx_lld_inv hex
    exact rx_s_lload h1 C hP k
  | lload_n i =>
    obtain ⟨x, h1, rfl⟩ := rx_lld_inv hex
    exact rx_s_lload_n h1 C hP k
  | aload i =>
    rcases rx_ald_inv hex with ⟨x, h1, rfl⟩ | ⟨h1, rfl⟩
    · exact rx_s_aload h1 C hP k
    · exact rx_s_aloadN h1 C hP k
  | aload_n i =>
    rcases rx_ald_inv hex with ⟨x, h1, rfl⟩ | ⟨h1, rfl⟩
    · exact rx_s_aload_n h1 C hP k
    · exact rx_s_aload_nN h1 C hP k
  | istore i =>
    obtain ⟨x, r, rfl, h1, rfl⟩ := rx_ist_inv hex
    exact rx_s_istore h1 C hP k
  | istore_n i =>
    obtain ⟨x, r, rfl, h1, rfl⟩ := rx_ist_inv hex
    exact rx_s_istore_n h1 C hP k
  | lstore i =>
    obtain ⟨x, r, rfl, h1, rfl⟩ := rx_lst_inv hex
    exact rx_s_lstore h1 C hP k
  | lstore_n i =>
    obtain ⟨x, r, rfl, h1, rfl⟩ := rx_lst_inv hex
    exact rx_s_lstore_n h1 C hP k
  | astore i =>
    rcases rx_ast_inv hex with ⟨x, r, rfl, h1, rfl⟩ | ⟨r, rfl, h1, rfl⟩
    · exact rx_s_astore h1 C hP k
    · exact rx_s_astoreN h1 C hP k
  | astore_n i =>
    rcases rx_ast_inv hex with ⟨x, r, rfl, h1, rfl⟩ | ⟨r, rfl, h1, rfl⟩
    · exact rx_s_astore_n h1 C hP k
    · exact rx_s_astore_nN h1 C hP k
  | iconst i =>
    cases hex
    exact rx_s_iconst C hP k
  | bipush i =>
    cases hex
    exact rx_s_bipush C hP k
  | sipush i =>
    cases hex
    exact rx_s_sipush C hP k
  | ldc i =>
    cases hex
    exact rx_s_ldc C hP k
  | ldc_w i =>
    cases hex
    exact rx_s_ldc_w C hP k
  | lconst i =>
    cases hex
    exact rx_s_lconst C hP k
  | ldc2_w i =>
    cases hex
    exact rx_s_ldc2_w C hP k
  | aconst_null =>
    cases hex
    exact rx_s_null C hP k
  | iinc i n =>
    change (match ls[i]? with | some (.int x) => some (pc + 3, rx_st1 ls i (.int (x + Int32.ofInt n)), st, h) | _ => none) = some g at hex
    split at hex
    · rename_i x hi; cases hex; exact rx_s_iinc hi C hP k
    · cases hex
  | iadd =>
    obtain ⟨x, y, r, rfl, rfl⟩ := rx_i2_inv hex
    exact rx_s_iadd C hP k
  | isub =>
    obtain ⟨x, y, r, rfl, rfl⟩ := rx_i2_inv hex
    exact rx_s_isub C hP k
  | imul =>
    obtain ⟨x, y, r, rfl, rfl⟩ := rx_i2_inv hex
    exact rx_s_imul C hP k
  | iand =>
    obtain ⟨x, y, r, rfl, rfl⟩ := rx_i2_inv hex
    exact rx_s_iand C hP k
  | ior =>
    obtain ⟨x, y, r, rfl, rfl⟩ := rx_i2_inv hex
    exact rx_s_ior C hP k
  | ixor =>
    obtain ⟨x, y, r, rfl, rfl⟩ := rx_i2_inv hex
    exact rx_s_ixor C hP k
  | ishl =>
    obtain ⟨x, y, r, rfl, rfl⟩ := rx_i2_inv hex
    exact rx_s_ishl C hP k
  | ishr =>
    obtain ⟨x, y, r, rfl, rfl⟩ := rx_i2_inv hex
    exact rx_s_ishr C hP k
  | ladd =>
    obtain ⟨x, y, r, rfl, rfl⟩ := rx_l2_inv hex
    exact rx_s_ladd C hP k
  | lsub =>
    obtain ⟨x, y, r, rfl, rfl⟩ := rx_l2_inv hex
    exact rx_s_lsub C hP k
  | lmul =>
    obtain ⟨x, y, r, rfl, rfl⟩ := rx_l2_inv hex
    exact rx_s_lmul C hP k
  | land =>
    obtain ⟨x, y, r, rfl, rfl⟩ := rx_l2_inv hex
    exact rx_s_land C hP k
  | lor =>
    obtain ⟨x, y, r, rfl, rfl⟩ := rx_l2_inv hex
    exact rx_s_lor C hP k
  | lxor =>
    obtain ⟨x, y, r, rfl, rfl⟩ := rx_l2_inv hex
    exact rx_s_lxor C hP k
  | idiv =>
    unfold rx_ex at hex
    dsimp only at hex
    split at hex
    · obtain ⟨e1, e2⟩ := rx_bif hex; cases e2; exact rx_s_idiv (of_decide_eq_true e1) C hP k
    · cases hex
  | irem =>
    unfold rx_ex at hex
    dsimp only at hex
    split at hex
    · obtain ⟨e1, e2⟩ := rx_bif hex; cases e2; exact rx_s_irem (of_decide_eq_true e1) C hP k
    · cases hex
  | lneg =>
    unfold rx_ex at hex
    dsimp only at hex
    split at hex
    · cases hex; exact rx_s_lneg C hP k
    · cases hex
  | lshl =>
    unfold rx_ex at hex
    dsimp only at hex
    split at hex
    · cases hex; exact rx_s_lshl C hP k
    · cases hex
  | lushr =>
    unfold rx_ex at hex
    dsimp only at hex
    split at hex
    · cases hex; exact rx_s_lushr C hP k
    · cases hex
  | lcmp =>
    unfold rx_ex at hex
    dsimp only at hex
    split at hex
    · cases hex; exact rx_s_lcmp C hP k
    · cases hex
  | i2l =>
    unfold rx_ex at hex
    dsimp only at hex
    split at hex
    · cases hex; exact rx_s_i2l C hP k
    · cases hex
  | l2i =>
    unfold rx_ex at hex
    dsimp only at hex
    split at hex
    · cases hex; exact rx_s_l2i C hP k
    · cases hex
  | i2b =>
    unfold rx_ex at hex
    dsimp only at hex
    split at hex
    · cases hex; exact rx_s_i2b C hP k
    · cases hex
  | dup =>
    unfold rx_ex at hex
    dsimp only at hex
    split at hex
    · obtain ⟨e1, e2⟩ := rx_bif hex; cases e2; exact rx_s_dup (Nat.eq_of_beq_eq_true e1) C hP k
    · cases hex
  | dup2 =>
    unfold rx_ex at hex
    dsimp only at hex
    split at hex
    · obtain ⟨e1, e2⟩ := rx_bif hex; cases e2; rw [Bool.and_eq_true] at e1; exact rx_s_dup2 (Nat.eq_of_beq_eq_true e1.1) (Nat.eq_of_beq_eq_true e1.2) C hP k
    · cases hex
  | ifCond cd off =>
    cases cd
    case eq =>
      obtain ⟨x, r, rfl, rfl⟩ := rx_br1_inv hex
      exact rx_s_if_eq C hP (fun q => by simpa [q] using k) (fun q => by simpa [q] using k)
    case ne =>
      obtain ⟨x, r, rfl, rfl⟩ := rx_br1_inv hex
      exact rx_s_if_ne C hP (fun q => by simpa [q] using k) (fun q => by simpa [q] using k)
    case lt =>
      obtain ⟨x, r, rfl, rfl⟩ := rx_br1_inv hex
      exact rx_s_if_lt C hP (fun q => by simpa [q] using k) (fun q => by simpa [q] using k)
    case ge =>
      obtain ⟨x, r, rfl, rfl⟩ := rx_br1_inv hex
      exact rx_s_if_ge C hP (fun q => by simpa [q] using k) (fun q => by simpa [q] using k)
    case gt =>
      obtain ⟨x, r, rfl, rfl⟩ := rx_br1_inv hex
      exact rx_s_if_gt C hP (fun q => by simpa [q] using k) (fun q => by simpa [q] using k)
    case le =>
      obtain ⟨x, r, rfl, rfl⟩ := rx_br1_inv hex
      exact rx_s_if_le C hP (fun q => by simpa [q] using k) (fun q => by simpa [q] using k)
  | if_icmp cd off =>
    cases cd
    case eq =>
      obtain ⟨x, y, r, rfl, rfl⟩ := rx_br2_inv hex
      exact rx_s_icmp_eq C hP (fun q => by simpa [q] using k) (fun q => by simpa [q] using k)
    case ne =>
      obtain ⟨x, y, r, rfl, rfl⟩ := rx_br2_inv hex
      exact rx_s_icmp_ne C hP (fun q => by simpa [q] using k) (fun q => by simpa [q] using k)
    case lt =>
      obtain ⟨x, y, r, rfl, rfl⟩ := rx_br2_inv hex
      exact rx_s_icmp_lt C hP (fun q => by simpa [q] using k) (fun q => by simpa [q] using k)
    case ge =>
      obtain ⟨x, y, r, rfl, rfl⟩ := rx_br2_inv hex
      exact rx_s_icmp_ge C hP (fun q => by simpa [q] using k) (fun q => by simpa [q] using k)
    case gt =>
      obtain ⟨x, y, r, rfl, rfl⟩ := rx_br2_inv hex
      exact rx_s_icmp_gt C hP (fun q => by simpa [q] using k) (fun q => by simpa [q] using k)
    case le =>
      obtain ⟨x, y, r, rfl, rfl⟩ := rx_br2_inv hex
      exact rx_s_icmp_le C hP (fun q => by simpa [q] using k) (fun q => by simpa [q] using k)
  | if_acmp cd off =>
    cases cd
    case eq =>
      unfold rx_ex at hex
      dsimp only at hex
      split at hex
      · split at hex
        · rename_i x y h1 h2; cases hex; exact rx_acmp_eq C hP h1 h2 (fun q => by simpa [q] using k) (fun q => by simpa [q] using k)
        · cases hex
      · cases hex
    case ne =>
      unfold rx_ex at hex
      dsimp only at hex
      split at hex
      · split at hex
        · rename_i x y h1 h2; cases hex; exact rx_acmp_ne C hP h1 h2 (fun q => by simpa [q] using k) (fun q => by simpa [q] using k)
        · cases hex
      · cases hex
  | ifnull off =>
    unfold rx_ex at hex
    dsimp only at hex
    split at hex
    · cases hex; exact rx_s_ifnullN C hP k trivial
    · cases hex; exact rx_s_ifnull C hP trivial k
    · cases hex
  | ifnonnull off =>
    unfold rx_ex at hex
    dsimp only at hex
    split at hex
    · cases hex; exact rx_s_ifnonnullN C hP trivial k
    · cases hex; exact rx_s_ifnonnull C hP k trivial
    · cases hex
  | goto off =>
    cases hex
    exact rx_s_goto C hP k trivial
  | tableswitch d lo hi os =>
    unfold rx_ex at hex
    dsimp only at hex
    split at hex
    · cases hex; exact rx_s_table C hP k
    · cases hex
  | lookupswitch d ps =>
    unfold rx_ex at hex
    dsimp only at hex
    split at hex
    · cases hex; exact rx_s_lookup C hP k
    · cases hex
  | getfield f =>
    unfold rx_ex at hex
    dsimp only at hex
    split at hex
    · obtain ⟨e1, e2⟩ := rx_bif hex; cases e2; exact rx_s_getfield C hP e1 k
    · cases hex
  | putfield f =>
    unfold rx_ex at hex
    dsimp only at hex
    split at hex
    · rename_i v i r
      obtain ⟨e1, e2⟩ := rx_bif hex
      obtain ⟨i', n, hi', -, -⟩ := rx_is_spec e1
      split at e2
      · rename_i x hk; cases e2
        refine rx_putfield_gen (h2 := rx_si h i (f % 64) x) C hP e1 (rx_put_int hk).1 (rx_put_int hk).2 rfl (fun a ha => ⟨rx_u_ne ha, rfl, rfl⟩) (fun q => ?_) k
        exact rx_put_fv_i (by rw [hk]; exact Or.inl rfl)
      · rename_i x hk; cases e2
        refine rx_putfield_gen (h2 := rx_sl h i (f % 64) x) C hP e1 (rx_put_long hk).1 (rx_put_long hk).2 rfl (fun a ha => ⟨rfl, rx_u_ne ha, rfl⟩) (fun q => ?_) k
        exact rx_put_fv_l hk
      · rename_i x hk; cases e2
        refine rx_putfield_gen (h2 := rx_sr h i (f % 64) (some x)) C hP e1 (rx_put_ref hk).1 (rx_put_ref hk).2 rfl (fun a ha => ⟨rfl, rfl, rx_u_ne ha⟩) (fun q => ?_) k
        exact rx_put_fv_r (some x) hk
      · rename_i hk; cases e2
        refine rx_putfield_gen (h2 := rx_sr h i (f % 64) none) C hP e1 (rx_put_nul hk).1 (rx_put_nul hk).2 rfl (fun a ha => ⟨rfl, rfl, rx_u_ne ha⟩) (fun q => ?_) k
        exact rx_put_fv_r none hk
      · rename_i x hk
        obtain ⟨e3, e4⟩ := rx_bif e2
        cases e4
        refine rx_putfield_gen (h2 := rx_si h i (f % 64) x) C hP e1 (rx_put_bool hk (of_decide_eq_true e3)).1 (rx_put_bool hk (of_decide_eq_true e3)).2 rfl (fun a ha => ⟨rx_u_ne ha, rfl, rfl⟩) (fun q => ?_) k
        exact rx_put_fv_i (by rw [hk]; exact Or.inr rfl)
      · cases e2
    · cases hex
  | iaload =>
    unfold rx_ex at hex
    dsimp only at hex
    split at hex
    · rename_i x i r
      obtain ⟨e1, e2⟩ := rx_bif hex; cases e2
      rw [Bool.and_eq_true] at e1
      obtain ⟨n, w1, w2⟩ := rx_kind_spec (by decide) (Nat.eq_of_beq_eq_true e1.1)
      exact rx_s_iaload C hP w1 (by rw [← w2]; exact rx_in_vp e1.2) k
    · cases hex
  | baload =>
    unfold rx_ex at hex
    dsimp only at hex
    split at hex
    · rename_i x i r
      obtain ⟨e1, e2⟩ := rx_bif hex; cases e2
      rw [Bool.and_eq_true, Bool.and_eq_true, Bool.or_eq_true] at e1
      obtain ⟨⟨e1, e3⟩, e4⟩ := e1
      obtain ⟨i', rfl⟩ : ∃ z, i = z + 1 := rx_pos1 e3
      rcases e1 with e1 | e1
      · obtain ⟨n, w1, w2⟩ := rx_kind_spec (by decide) (Nat.eq_of_beq_eq_true e1)
        exact rx_s_baload13 C hP w1 (by rw [← w2]; exact rx_in_vp e4) k
      · obtain ⟨n, w1, w2⟩ := rx_kind_spec (by decide) (Nat.eq_of_beq_eq_true e1)
        exact rx_s_baload16 C hP w1 (by rw [← w2]; exact rx_in_vp e4) k
    · cases hex
  | laload =>
    unfold rx_ex at hex
    dsimp only at hex
    split at hex
    · rename_i x i r
      obtain ⟨e1, e2⟩ := rx_bif hex; cases e2
      rw [Bool.and_eq_true, Bool.and_eq_true] at e1
      obtain ⟨⟨e1, e3⟩, e4⟩ := e1
      obtain ⟨i', rfl⟩ : ∃ z, i = z + 1 := rx_pos1 e3
      obtain ⟨n, w1, w2⟩ := rx_kind_spec (by decide) (Nat.eq_of_beq_eq_true e1)
      exact rx_s_laload C hP w1 (by rw [← w2]; exact rx_in_vp e4) k
    · cases hex
  | aaload =>
    unfold rx_ex at hex
    dsimp only at hex
    split at hex
    · rename_i x i r
      obtain ⟨e1, e2⟩ := rx_bif hex; cases e2
      rw [Bool.and_eq_true, Bool.and_eq_true, Bool.or_eq_true] at e1
      obtain ⟨⟨e1, e3⟩, e4⟩ := e1
      obtain ⟨i', rfl⟩ : ∃ z, i = z + 1 := rx_pos1 e3
      rcases e1 with e1 | e1
      · obtain ⟨n, w1, w2⟩ := rx_kind_spec (by decide) (Nat.eq_of_beq_eq_true e1)
        exact rx_s_aaload17 C hP w1 (by rw [← w2]; exact rx_in_vp e4) k
      · obtain ⟨n, w1, w2⟩ := rx_kind_spec (by decide) (Nat.eq_of_beq_eq_true e1)
        exact rx_s_aaload18 C hP w1 (by rw [← w2]; exact rx_in_vp e4) k
    · cases hex
  | iastore =>
    unfold rx_ex at hex
    dsimp only at hex
    split at hex
    · rename_i v x i r
      obtain ⟨e1, e2⟩ := rx_bif hex; cases e2
      rw [Bool.and_eq_true, Bool.and_eq_true] at e1
      obtain ⟨⟨e1, e3⟩, e4⟩ := e1
      obtain ⟨i', rfl⟩ : ∃ z, i = z + 1 := rx_pos1 e3
      obtain ⟨n, w1, w2⟩ := rx_kind_spec (by decide) (Nat.eq_of_beq_eq_true e1)
      exact rx_s_iastore C hP w1 (by rw [← w2]; exact rx_in_vp e4) k
    · cases hex
  | lastore =>
    unfold rx_ex at hex
    dsimp only at hex
    split at hex
    · rename_i v x i r
      obtain ⟨e1, e2⟩ := rx_bif hex; cases e2
      rw [Bool.and_eq_true, Bool.and_eq_true] at e1
      obtain ⟨⟨e1, e3⟩, e4⟩ := e1
      obtain ⟨i', rfl⟩ : ∃ z, i = z + 1 := rx_pos1 e3
      obtain ⟨n, w1, w2⟩ := rx_kind_spec (by decide) (Nat.eq_of_beq_eq_true e1)
      exact rx_s_lastore C hP w1 (by rw [← w2]; exact rx_in_vp e4) k
    · cases hex
  | bastore =>
    unfold rx_ex at hex
    dsimp only at hex
    split at hex
    · rename_i v x i r
      obtain ⟨e1, e2⟩ := rx_bif hex
      rw [Bool.and_eq_true] at e1
      obtain ⟨e3, e4⟩ := e1
      obtain ⟨i', rfl⟩ : ∃ z, i = z + 1 := rx_pos1 e3
      cases e5 : Nat.beq (rx_kind h (i' + 1)) 13 with
      | true =>
        rw [e5] at e2; cases e2
        obtain ⟨n, w1, w2⟩ := rx_kind_spec (by decide) (Nat.eq_of_beq_eq_true e5)
        exact rx_s_bastore13 C hP w1 (by rw [← w2]; exact rx_in_vp e4) k
      | false =>
        rw [e5] at e2
        obtain ⟨e6, e7⟩ := rx_bif e2; cases e7
        obtain ⟨n, w1, w2⟩ := rx_kind_spec (by decide) (Nat.eq_of_beq_eq_true e6)
        exact rx_s_bastore16 C hP w1 (by rw [← w2]; exact rx_in_vp e4) k
    · cases hex
  | aastore =>
    unfold rx_ex at hex
    dsimp only at hex
    split at hex
    · rename_i v x i r
      obtain ⟨e1, e2⟩ := rx_bif hex; cases e2
      rw [Bool.and_eq_true, Bool.and_eq_true, Bool.and_eq_true, Bool.or_eq_true, Bool.and_eq_true, Bool.and_eq_true] at e1
      obtain ⟨⟨⟨e1, e3⟩, e3v⟩, e4⟩ := e1
      obtain ⟨i', rfl⟩ : ∃ z, i = z + 1 := rx_pos1 e3
      obtain ⟨v', rfl⟩ : ∃ z, v = z + 1 := rx_pos1 e3v
      rcases e1 with ⟨e1, e5⟩ | ⟨e1, e5⟩
      · obtain ⟨n, w1, w2⟩ := rx_kind_spec (by decide) (Nat.eq_of_beq_eq_true e1)
        obtain ⟨n3, w3, -⟩ := rx_kind_spec (by decide) (Nat.eq_of_beq_eq_true e5)
        exact rx_s_aastore17 C hP w1 w3 (by rw [← w2]; exact rx_in_vp e4) k
      · obtain ⟨n, w1, w2⟩ := rx_kind_spec (by decide) (Nat.eq_of_beq_eq_true e1)
        obtain ⟨n3, w3, -⟩ := rx_kind_spec (by decide) (Nat.eq_of_beq_eq_true e5)
        exact rx_s_aastore18 C hP w1 w3 (by rw [← w2]; exact rx_in_vp e4) k
    · rename_i x i r
      obtain ⟨e1, e2⟩ := rx_bif hex; cases e2
      rw [Bool.and_eq_true, Bool.and_eq_true, Bool.or_eq_true] at e1
      obtain ⟨⟨e1, e3⟩, e4⟩ := e1
      obtain ⟨i', rfl⟩ : ∃ z, i = z + 1 := rx_pos1 e3
      rcases e1 with e1 | e1
      · obtain ⟨n, w1, w2⟩ := rx_kind_spec (by decide) (Nat.eq_of_beq_eq_true e1)
        exact rx_s_aastoreN17 C hP w1 (by rw [← w2]; exact rx_in_vp e4) k
      · obtain ⟨n, w1, w2⟩ := rx_kind_spec (by decide) (Nat.eq_of_beq_eq_true e1)
        exact rx_s_aastoreN18 C hP w1 (by rw [← w2]; exact rx_in_vp e4) k
    · cases hex
  | arraylength =>
    unfold rx_ex at hex
    dsimp only at hex
    split at hex
    · rename_i i r
      obtain ⟨e1, e2⟩ := rx_bif hex; cases e2
      rw [Bool.and_eq_true] at e1
      have q1 := rx_blt e1.1
      have q2 := rx_blt e1.2
      obtain ⟨n, w1, w2⟩ := rx_kind_spec (h := h) (i := i) (by omega) rfl
      rw [w2] at k
      exact rx_s_arraylength C hP w1 q1 q2 k
    · cases hex
  | new ci =>
    cases hex
    exact rx_s_new C hP hR k
  | newarray a =>
    obtain ⟨hj, hmem⟩ := rx_P_mem hP
    have hsys := of_decide_eq_true (List.all_eq_true.mp (List.all_eq_true.mp rx_sys_ok j (List.mem_range.mpr hj)) _ hmem)
    unfold rx_ex at hex
    dsimp only at hex
    split at hex
    · rename_i x r
      obtain ⟨e1, e2⟩ := rx_bif hex; cases e2
      rw [Bool.and_eq_true] at e1
      cases a <;> first | exact rx_s_newarray13 C hP (of_decide_eq_true e1.1) (Nat.le_of_ble_eq_true e1.2) hR k | exact rx_s_newarray14 C hP (of_decide_eq_true e1.1) (Nat.le_of_ble_eq_true e1.2) hR k | exact rx_s_newarray15 C hP (of_decide_eq_true e1.1) (Nat.le_of_ble_eq_true e1.2) hR k | exact rx_s_newarray16 C hP (of_decide_eq_true e1.1) (Nat.le_of_ble_eq_true e1.2) hR k | exact absurd hsys (by decide)
    · cases hex
  | anewarray t =>
    obtain ⟨hj, hmem⟩ := rx_P_mem hP
    have hsys := of_decide_eq_true (List.all_eq_true.mp (List.all_eq_true.mp rx_sys_ok j (List.mem_range.mpr hj)) _ hmem)
    unfold rx_ex at hex
    dsimp only at hex
    split at hex
    · rename_i x r
      obtain ⟨e1, e2⟩ := rx_bif hex; cases e2
      rw [Bool.and_eq_true] at e1
      rcases hsys with rfl | rfl
      · exact rx_s_anewarray17 C hP (of_decide_eq_true e1.1) (Nat.le_of_ble_eq_true e1.2) hR k
      · exact rx_s_anewarray18 C hP (of_decide_eq_true e1.1) (Nat.le_of_ble_eq_true e1.2) hR k
    · cases hex
  | _ => cases hex
end RXZ
