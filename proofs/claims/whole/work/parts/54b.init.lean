/-! references lie only where they may -/
def wfR (x : xq_S) : Prop := ∀ a j, ¬ xq_R x a j = none → a < xq_N x ∧ j < (xq_K x a).2 ∧ ((xq_K x a).1 = 102 ∨ xq_ft (xq_K x a).1 j = 2)
def wl (x x' : xq_S) : Prop := wfR x → wfR x'
section xk_wl
variable {x x' : xq_S} {q pc' : Nat} {L L' st st' : List Value}
theorem wl_tr {x y z : xq_S} (h : wl x y) (h2 : wl y z) : wl x z := fun w => h2 (h w)
theorem wl_eq (h : x'.1 = x.1) : wl x x' := fun w => by
  unfold wfR xq_R xq_N xq_K at w ⊢
  rw [h]; exact w
theorem wl_set {a j : Nat} {v : Option Nat} (h1 : a < xq_N x) (h2 : j < (xq_K x a).2) (h3 : (xq_K x a).1 = 102 ∨ xq_ft (xq_K x a).1 j = 2) : wl x (xq_setR x a j v) := fun w a' j' hr => by
  by_cases e : a' = a
  · subst e
    by_cases ej : j' = j
    · subst ej; exact ⟨h1, h2, h3⟩
    · refine w a' j' (fun z => hr ?_)
      show va_up (xq_R x) a' (va_up (xq_R x a') j v) a' j' = none
      rw [xv_eq, xv_ne ej]; exact z
  · refine w a' j' (fun z => hr ?_)
    show va_up (xq_R x) a (va_up (xq_R x a) j v) a' j' = none
    rw [xv_ne e]; exact z
theorem wl_new {c n : Nat} (h : x'.1 = (xq_new x c n).1) : wl x x' := fun w a j hr => by
  have hr2 : ¬ xq_R (xq_new x c n) a j = none := by
    intro z; apply hr; unfold xq_R; rw [h]; exact z
  have hg : a < xq_N (xq_new x c n) ∧ j < (xq_K (xq_new x c n) a).2 ∧ ((xq_K (xq_new x c n) a).1 = 102 ∨ xq_ft (xq_K (xq_new x c n) a).1 j = 2) := by
    by_cases e : a = xq_N x
    · exfalso; apply hr2
      show va_up (xq_R x) (xq_N x) (fun _ => none) a j = none
      rw [e, xv_eq]
    · have hr3 : ¬ xq_R x a j = none := by
        intro z; apply hr2
        show va_up (xq_R x) (xq_N x) (fun _ => none) a j = none
        rw [xv_ne e]; exact z
      obtain ⟨w1, w2, w3⟩ := w a j hr3
      have ek : xq_K (xq_new x c n) a = xq_K x a := by
        show va_up (xq_K x) (xq_N x) (c, n) a = xq_K x a
        rw [xv_ne e]
      rw [ek]
      exact ⟨Nat.lt_succ_of_lt w1, w2, w3⟩
  unfold xq_N xq_K
  rw [h]; exact hg
theorem wl_load {k : Nat} {int : Bool} (h : xq_load q x L st k int = some (pc', x', L', st')) : wl x x' := by
  unfold xq_load at h
  (repeat' split at h) <;> first | (cases h; exact wl_eq rfl) | cases h
theorem wl_store {k : Nat} {int : Bool} (h : xq_store q x L st k int = some (pc', x', L', st')) : wl x x' := by
  unfold xq_store at h
  (repeat' split at h) <;> first | (cases h; exact wl_eq rfl) | cases h
theorem wl_bin {f : Int32 → Int32 → Int32} (h : xq_bin f q x L st = some (pc', x', L', st')) : wl x x' := by
  unfold xq_bin at h
  (repeat' split at h) <;> first | (cases h; exact wl_eq rfl) | cases h
theorem wl_div {f : Int32 → Int32 → Int32} (h : xq_div f q x L st = some (pc', x', L', st')) : wl x x' := by
  unfold xq_div at h
  (repeat' split at h) <;> first | (cases h; exact wl_eq rfl) | cases h
theorem wl_lbin {f : Int64 → Int64 → Int64} (h : xq_lbin f q x L st = some (pc', x', L', st')) : wl x x' := by
  unfold xq_lbin at h
  (repeat' split at h) <;> first | (cases h; exact wl_eq rfl) | cases h
theorem wl_if1 {f : Int32 → Bool} {u : Nat} (h : xq_if1 f u q x L st = some (pc', x', L', st')) : wl x x' := by
  unfold xq_if1 at h
  (repeat' split at h) <;> first | (cases h; exact wl_eq rfl) | cases h
theorem wl_if2 {f : Int32 → Int32 → Bool} {u : Nat} (h : xq_if2 f u q x L st = some (pc', x', L', st')) : wl x x' := by
  unfold xq_if2 at h
  (repeat' split at h) <;> first | (cases h; exact wl_eq rfl) | cases h
theorem wl_getf {c k : Nat} (h : xq_getf q x L st c k = some (pc', x', L', st')) : wl x x' := by
  unfold xq_getf at h
  (repeat' split at h) <;> first | (cases h; exact wl_eq rfl) | cases h
theorem wl_aload {c : Nat} (h : xq_aload q x L st c = some (pc', x', L', st')) : wl x x' := by
  unfold xq_aload at h
  (repeat' split at h) <;> first | (cases h; exact wl_eq rfl) | cases h
theorem wl_alen  (h : xq_alen q x L st = some (pc', x', L', st')) : wl x x' := by
  unfold xq_alen at h
  (repeat' split at h) <;> first | (cases h; exact wl_eq rfl) | cases h
theorem wl_dup  (h : xq_dup q x L st = some (pc', x', L', st')) : wl x x' := by
  unfold xq_dup at h
  (repeat' split at h) <;> first | (cases h; exact wl_eq rfl) | cases h
theorem wl_dup2  (h : xq_dup2 q x L st = some (pc', x', L', st')) : wl x x' := by
  unfold xq_dup2 at h
  (repeat' split at h) <;> first | (cases h; exact wl_eq rfl) | cases h
theorem wl_pop  (h : xq_pop q x L st = some (pc', x', L', st')) : wl x x' := by
  unfold xq_pop at h
  (repeat' split at h) <;> first | (cases h; exact wl_eq rfl) | cases h
theorem wl_null {u : Nat} (h : xq_null u q x L st = some (pc', x', L', st')) : wl x x' := by
  unfold xq_null at h
  (repeat' split at h) <;> first | (cases h; exact wl_eq rfl) | cases h
theorem wl_sw {d lo hi : Int} {offs : Array Int} (h : xq_sw q d lo hi offs x L st = some (pc', x', L', st')) : wl x x' := by
  unfold xq_sw at h
  (repeat' split at h) <;> first | (cases h; exact wl_eq rfl) | cases h
theorem wl_putf {c k : Nat} (h : xq_putf q x L st c k = some (pc', x', L', st')) : wl x x' := by
  unfold xq_putf at h
  split at h
  · split at h
    · cases h; exact wl_eq rfl
    · cases h
  · split at h
    · rename_i hc
      cases h
      simp only [Bool.and_eq_true, decide_eq_true_eq] at hc
      obtain ⟨⟨⟨⟨h1, h2⟩, h3⟩, h4⟩, h5⟩ := hc
      exact wl_set h1 h4 (Or.inr (by rw [h3]; exact h5))
    · cases h
  · split at h
    · rename_i hc
      cases h
      simp only [Bool.and_eq_true, decide_eq_true_eq] at hc
      obtain ⟨⟨⟨h1, h3⟩, h4⟩, h5⟩ := hc
      exact wl_set h1 h4 (Or.inr (by rw [h3]; exact h5))
    · cases h
  · cases h
theorem xq_in_lt {i : Int32} {n : Nat} (h : xq_in i n = true) : i.toNatClampNeg < n := by
  unfold xq_in at h
  simp only [Bool.not_eq_true', Bool.or_eq_false_iff, decide_eq_false_iff_not] at h
  omega
theorem wl_astore {c : Nat} (h : xq_astore q x L st c = some (pc', x', L', st')) : wl x x' := by
  unfold xq_astore at h
  split at h
  · split at h
    · cases h; exact wl_eq rfl
    · cases h
  · split at h
    · cases h; exact wl_eq rfl
    · cases h
  · split at h
    · rename_i hc
      cases h
      simp only [Bool.and_eq_true, decide_eq_true_eq] at hc
      obtain ⟨⟨⟨⟨⟨h1, h2⟩, h3⟩, h4⟩, h5⟩, h6⟩ := hc
      exact wl_set h1 (xq_in_lt h6) (Or.inl h5)
    · cases h
  · cases h
theorem wl_newa {c : Nat} (h : xq_newa q x L st c = some (pc', x', L', st')) : wl x x' := by
  unfold xq_newa at h
  (repeat' split at h) <;> first | (cases h; exact wl_new rfl) | cases h
theorem wl_obj {c : Nat} (h : xq_obj q x L st c = some (pc', x', L', st')) : wl x x' := by
  unfold xq_obj at h
  (repeat' split at h) <;> first | (cases h; exact wl_new rfl) | cases h
theorem wl_self {y : Nat} (h : xq_self q x L st y = some (pc', x', L', st')) : wl x x' := by
  unfold xq_self at h
  (repeat' split at h) <;> first | (cases h; exact wl_eq rfl) | (cases h; exact wl_new (c := 100) (n := 12) rfl) | cases h
set_option maxHeartbeats 4000000 in
theorem wl_step {i : Instr} {a b pc : Nat} (h : xq_step i a b pc x L st = some (pc', x', L', st')) : wl x x' := by
  cases i
  case aconst_null => cases h; exact wl_eq rfl
  case iconst => cases h; exact wl_eq rfl
  case lconst => cases h; exact wl_eq rfl
  case bipush => cases h; exact wl_eq rfl
  case sipush => cases h; exact wl_eq rfl
  case ldc2_w => cases h; exact wl_eq rfl
  case goto => cases h; exact wl_eq rfl
  case getstatic => cases h; exact wl_eq rfl
  case iload => exact wl_load h
  case aload => exact wl_load h
  case iload_n => exact wl_load h
  case aload_n => exact wl_load h
  case istore => exact wl_store h
  case astore => exact wl_store h
  case istore_n => exact wl_store h
  case astore_n => exact wl_store h
  case iadd => exact wl_bin h
  case isub => exact wl_bin h
  case imul => exact wl_bin h
  case iand => exact wl_bin h
  case ior => exact wl_bin h
  case ixor => exact wl_bin h
  case ishl => exact wl_bin h
  case ishr => exact wl_bin h
  case iushr => exact wl_bin h
  case idiv => exact wl_div h
  case irem => exact wl_div h
  case ladd => exact wl_lbin h
  case lmul => exact wl_lbin h
  case dup => exact wl_dup h
  case dup2 => exact wl_dup2 h
  case pop => exact wl_pop h
  case ifnonnull => exact wl_null h
  case ifnull => exact wl_null h
  case tableswitch => exact wl_sw h
  case getfield => exact wl_getf h
  case putfield => exact wl_putf h
  case iaload => exact wl_aload h
  case laload => exact wl_aload h
  case aaload => exact wl_aload h
  case iastore => exact wl_astore h
  case lastore => exact wl_astore h
  case aastore => exact wl_astore h
  case arraylength => exact wl_alen h
  case anewarray => exact wl_newa h
  case new => exact wl_obj h
  case invokevirtual => exact wl_self h
  case invokespecial => exact wl_self h
  case invokestatic => exact wl_self h
  case ldc =>
    simp only [xq_step] at h
    (repeat' split at h) <;> first | (cases h; exact wl_eq rfl) | cases h
  case ldc_w =>
    simp only [xq_step] at h
    (repeat' split at h) <;> first | (cases h; exact wl_eq rfl) | cases h
  case iinc =>
    simp only [xq_step] at h
    (repeat' split at h) <;> first | (cases h; exact wl_eq rfl) | cases h
  case ineg =>
    simp only [xq_step] at h
    (repeat' split at h) <;> first | (cases h; exact wl_eq rfl) | cases h
  case lcmp =>
    simp only [xq_step] at h
    (repeat' split at h) <;> first | (cases h; exact wl_eq rfl) | cases h
  case checkcast =>
    simp only [xq_step] at h
    (repeat' split at h) <;> first | (cases h; exact wl_eq rfl) | cases h
  case ifCond cd off =>
    cases cd <;> exact wl_if1 h
  case if_icmp cd off =>
    cases cd <;> exact wl_if2 h
  case newarray ty =>
    cases ty
    case int => exact wl_newa h
    case long => exact wl_newa h
    all_goals (cases h)
  all_goals (cases h)
end xk_wl
theorem wl_x : ∀ (F d m : Nat) (x : xq_S) (pc : Nat) (L st : List Value) (v : Option Value) (x' : xq_S), xq_x F d m x pc L st = some (v, x') → wl x x' := by
  intro F
  induction F with
  | zero => intro d m x pc L st v x' h; cases h
  | succ F ih =>
    intro d m x pc L st v x' h
    unfold xq_x at h
    split at h
    · cases h
    · split at h
      · split at h
        · split at h
          · split at h
            · rename_i h1
              exact wl_tr (ih _ _ _ _ _ _ _ _ h1) (ih _ _ _ _ _ _ _ _ h)
            · cases h
          · cases h
        · cases h
      · split at h
        · cases h
          exact wl_eq rfl
        · split at h
          · rename_i h1
            exact wl_tr (wl_step h1) (ih _ _ _ _ _ _ _ _ h)
          · cases h
