/-- the word of length n that begins at s -/
def rf_wd (a : Nat → Int32) : Nat → Nat → List Int32
  | _, 0 => []
  | s, n + 1 => a s :: rf_wd a (s + 1) n
theorem rf_wd_0 (a : Nat → Int32) (s : Nat) : rf_wd a s 0 = [] := rfl
theorem rf_wd_s (a : Nat → Int32) (s n : Nat) : rf_wd a s (n + 1) = a s :: rf_wd a (s + 1) n := rfl
theorem rf_wd_len (a : Nat → Int32) : ∀ n s : Nat, (rf_wd a s n).length = n := by
  intro n
  induction n with
  | zero => intro s; rfl
  | succ n ih => intro s; rw [rf_wd_s, List.length_cons, ih]
theorem rf_wd_app (a : Nat → Int32) : ∀ n s : Nat, rf_wd a s (n + 1) = rf_wd a s n ++ [a (s + n)] := by
  intro n
  induction n with
  | zero => intro s; rfl
  | succ n ih =>
    intro s
    rw [rf_wd_s a s (n + 1), ih (s + 1), rf_wd_s a s n, List.cons_append, show s + 1 + n = s + (n + 1) by omega]
/-- words of one length are the same just where their letters are -/
theorem rf_wd_len_eq {a : Nat → Int32} {s n b m : Nat} (h : rf_wd a s n = rf_wd a b m) : n = m := by
  have := congrArg List.length h
  rwa [rf_wd_len, rf_wd_len] at this
/-- the word w stands at place q of the text -/
def rf_oc (a : Nat → Int32) (t : Nat) (w : List Int32) (q : Nat) : Bool := decide (q + w.length ≤ t ∧ rf_wd a q w.length = w)
theorem rf_oc_iff {a : Nat → Int32} {t : Nat} {w : List Int32} {q : Nat} : rf_oc a t w q = true ↔ q + w.length ≤ t ∧ rf_wd a q w.length = w := by
  unfold rf_oc
  exact decide_eq_true_iff
theorem rf_oc_wd {a : Nat → Int32} {t s n q : Nat} : rf_oc a t (rf_wd a s n) q = true ↔ q + n ≤ t ∧ rf_wd a q n = rf_wd a s n := by
  rw [rf_oc_iff, rf_wd_len]
/-- how many below k -/
def rf_cn (f : Nat → Bool) : Nat → Nat
  | 0 => 0
  | k + 1 => rf_cn f k + (if f k = true then 1 else 0)
theorem rf_cn_s (f : Nat → Bool) (k : Nat) : rf_cn f (k + 1) = rf_cn f k + (if f k = true then 1 else 0) := rfl
theorem rf_cn_t {f : Nat → Bool} {k : Nat} (h : f k = true) : rf_cn f (k + 1) = rf_cn f k + 1 := by rw [rf_cn_s, if_pos h]
theorem rf_cn_f {f : Nat → Bool} {k : Nat} (h : ¬ f k = true) : rf_cn f (k + 1) = rf_cn f k := by rw [rf_cn_s, if_neg h, Nat.add_zero]
theorem rf_cn_le (f : Nat → Bool) : ∀ k, rf_cn f k ≤ k := by
  intro k
  induction k with
  | zero => exact Nat.le_refl 0
  | succ k ih =>
    by_cases h : f k = true
    · rw [rf_cn_t h]; omega
    · rw [rf_cn_f h]; omega
theorem rf_cn_up {f : Nat → Bool} {m : Nat} : ∀ n : Nat, m ≤ n → (∀ q, m ≤ q → q < n → ¬ f q = true) → rf_cn f n = rf_cn f m := by
  intro n
  induction n with
  | zero => intro h _; rw [show m = 0 by omega]
  | succ n ih =>
    intro h hz
    by_cases e : m = n + 1
    · rw [e]
    · rw [rf_cn_f (hz n (by omega) (by omega))]
      exact ih (by omega) (fun q h1 h2 => hz q h1 (by omega))
theorem rf_cn_mono {f g : Nat → Bool} : ∀ n : Nat, (∀ q, q < n → f q = true → g q = true) → rf_cn f n ≤ rf_cn g n := by
  intro n
  induction n with
  | zero => intro _; exact Nat.le_refl 0
  | succ n ih =>
    intro h
    have i := ih (fun q hq => h q (by omega))
    by_cases e : f n = true
    · rw [rf_cn_t e, rf_cn_t (h n (by omega) e)]; omega
    · by_cases e2 : g n = true
      · rw [rf_cn_f e, rf_cn_t e2]; omega
      · rw [rf_cn_f e, rf_cn_f e2]; exact i
theorem rf_cn_lt {f g : Nat → Bool} {j : Nat} (hg : g j = true) (hf : ¬ f j = true) : ∀ n : Nat, j < n → (∀ q, q < n → f q = true → g q = true) → rf_cn f n < rf_cn g n := by
  intro n
  induction n with
  | zero => intro h _; omega
  | succ n ih =>
    intro hj h
    by_cases e : j = n
    · subst e
      have i := rf_cn_mono (f := f) (g := g) j (fun q hq => h q (by omega))
      rw [rf_cn_f hf, rf_cn_t hg]; omega
    · have i := ih (by omega) (fun q hq => h q (by omega))
      by_cases e1 : f n = true
      · rw [rf_cn_t e1, rf_cn_t (h n (by omega) e1)]; omega
      · by_cases e2 : g n = true
        · rw [rf_cn_f e1, rf_cn_t e2]; omega
        · rw [rf_cn_f e1, rf_cn_f e2]; exact i
theorem rf_cn_eq {f g : Nat → Bool} {n : Nat} (h : ∀ q, q < n → (f q = true ↔ g q = true)) : rf_cn f n = rf_cn g n :=
  Nat.le_antisymm (rf_cn_mono n (fun q hq => (h q hq).mp)) (rf_cn_mono n (fun q hq => (h q hq).mpr))
theorem rf_cn_sh (f : Nat → Bool) (h0 : ¬ f 0 = true) : ∀ n : Nat, rf_cn f (n + 1) = rf_cn (fun q => f (q + 1)) n := by
  intro n
  induction n with
  | zero => rw [rf_cn_f h0]; rfl
  | succ n ih =>
    by_cases e : f (n + 1) = true
    · rw [rf_cn_t e, rf_cn_t (f := fun q => f (q + 1)) e, ih]
    · rw [rf_cn_f e, rf_cn_f (f := fun q => f (q + 1)) e, ih]
theorem rf_cn_ex {f : Nat → Bool} : ∀ n : Nat, 0 < rf_cn f n → ∃ q, q < n ∧ f q = true := by
  intro n
  induction n with
  | zero => intro h; exact absurd h (Nat.lt_irrefl 0)
  | succ n ih =>
    intro h
    by_cases e : f n = true
    · exact ⟨n, by omega, e⟩
    · rw [rf_cn_f e] at h
      obtain ⟨q, hq, hf⟩ := ih h
      exact ⟨q, by omega, hf⟩
theorem rf_cn_pos {f : Nat → Bool} {q n : Nat} (hq : q < n) (h : f q = true) : 0 < rf_cn f n := by
  have := rf_cn_lt (f := fun _ => false) (g := f) h (by simp) n hq (fun _ _ z => absurd z (by simp))
  omega
/-- how often w stands in the text -/
def rf_ct (a : Nat → Int32) (t : Nat) (w : List Int32) : Nat := rf_cn (rf_oc a t w) t
theorem rf_ct_le (a : Nat → Int32) (t : Nat) (w : List Int32) : rf_ct a t w ≤ t := rf_cn_le _ _
/-- the first from i on, of d: or -3 -/
def rf_fd (f : Nat → Bool) : Nat → Nat → Int32
  | _, 0 => -3
  | i, d + 1 => if f i = true then nI i else rf_fd f (i + 1) d
theorem rf_fd_0 (f : Nat → Bool) (i : Nat) : rf_fd f i 0 = -3 := rfl
theorem rf_fd_t {f : Nat → Bool} {i d : Nat} (h : f i = true) : rf_fd f i (d + 1) = nI i := by
  show (if f i = true then nI i else rf_fd f (i + 1) d) = nI i
  rw [if_pos h]
theorem rf_fd_f {f : Nat → Bool} {i d : Nat} (h : ¬ f i = true) : rf_fd f i (d + 1) = rf_fd f (i + 1) d := by
  show (if f i = true then nI i else rf_fd f (i + 1) d) = rf_fd f (i + 1) d
  rw [if_neg h]
theorem rf_fd_c (f : Nat → Bool) : ∀ d i : Nat, (∃ q, i ≤ q ∧ q < i + d ∧ f q = true ∧ (∀ j, i ≤ j → j < q → ¬ f j = true) ∧ rf_fd f i d = nI q) ∨ ((∀ q, i ≤ q → q < i + d → ¬ f q = true) ∧ rf_fd f i d = -3) := by
  intro d
  induction d with
  | zero => intro i; exact Or.inr ⟨fun q h1 h2 => by omega, rfl⟩
  | succ d ih =>
    intro i
    by_cases e : f i = true
    · exact Or.inl ⟨i, by omega, by omega, e, fun j h1 h2 => by omega, rf_fd_t e⟩
    · rw [rf_fd_f e]
      rcases ih (i + 1) with ⟨q, h1, h2, h3, h4, h5⟩ | ⟨h1, h2⟩
      · refine Or.inl ⟨q, by omega, by omega, h3, fun j g1 g2 => ?_, h5⟩
        by_cases z : j = i
        · rw [z]; exact e
        · exact h4 j (by omega) g2
      · refine Or.inr ⟨fun q g1 g2 => ?_, h2⟩
        by_cases z : q = i
        · rw [z]; exact e
        · exact h1 q (by omega) (by omega)
theorem rf_fd_n {f : Nat → Bool} {i d : Nat} (h : ∀ q, i ≤ q → q < i + d → ¬ f q = true) : rf_fd f i d = -3 := by
  rcases rf_fd_c f d i with ⟨q, h1, h2, h3, _, _⟩ | ⟨_, h2⟩
  · exact absurd h3 (h q h1 h2)
  · exact h2
theorem rf_m3 {q : Nat} (h : q < 2 ^ 31) : ¬ nI q = -3 := by
  intro e
  have := congrArg Int32.toInt e
  rw [nI_toInt h, show (-3 : Int32).toInt = -3 by decide] at this
  omega
theorem rf_m1 {q : Nat} (h : q < 2 ^ 31) : ¬ nI q = -1 := by
  intro e
  have := congrArg Int32.toInt e
  rw [nI_toInt h, show (-1 : Int32).toInt = -1 by decide] at this
  omega
/-- the first place of w -/
def rf_fp (a : Nat → Int32) (t : Nat) (w : List Int32) : Int32 := rf_fd (rf_oc a t w) 0 t
theorem rf_fp_c (a : Nat → Int32) (t : Nat) (w : List Int32) : (∃ q, q < t ∧ rf_oc a t w q = true ∧ (∀ j, j < q → ¬ rf_oc a t w j = true) ∧ rf_fp a t w = nI q) ∨ ((∀ q, q < t → ¬ rf_oc a t w q = true) ∧ rf_fp a t w = -3) := by
  rcases rf_fd_c (rf_oc a t w) t 0 with ⟨q, h1, h2, h3, h4, h5⟩ | ⟨h1, h2⟩
  · exact Or.inl ⟨q, by omega, h3, fun j hj => h4 j (Nat.zero_le j) hj, h5⟩
  · exact Or.inr ⟨fun q hq => h1 q (Nat.zero_le q) (by omega), h2⟩
/-- (p, n): p is the first place of its word -/
def rf_fs (a : Nat → Int32) (t : Nat) (e : Nat × Nat) : Bool := decide (rf_fp a t (rf_wd a e.1 e.2) = nI e.1)
theorem rf_fs_iff {a : Nat → Int32} {t : Nat} {e : Nat × Nat} : rf_fs a t e = true ↔ rf_fp a t (rf_wd a e.1 e.2) = nI e.1 := by
  unfold rf_fs
  exact decide_eq_true_iff
theorem rf_fs_ex {a : Nat → Int32} {t p n : Nat} (ht : t ≤ 24) (hn : 1 ≤ n) (hp : p + n ≤ t) : ∃ q, q ≤ p ∧ q + n ≤ t ∧ rf_wd a q n = rf_wd a p n ∧ rf_fs a t (q, n) = true ∧ (q = p → rf_fs a t (p, n) = true) := by
  have hpp : rf_oc a t (rf_wd a p n) p = true := rf_oc_wd.mpr ⟨hp, rfl⟩
  rcases rf_fp_c a t (rf_wd a p n) with ⟨q, h1, h2, h3, h4⟩ | ⟨h1, _⟩
  · have h5 := rf_oc_wd.mp h2
    have h6 : rf_fs a t (q, n) = true := by
      rw [rf_fs_iff]
      show rf_fp a t (rf_wd a q n) = nI q
      rw [h5.2]; exact h4
    refine ⟨q, ?_, h5.1, h5.2, h6, fun z => by rw [← z]; exact h6⟩
    by_cases z : p < q
    · exact absurd hpp (h3 p z)
    · omega
  · exact absurd hpp (h1 p (by omega))
theorem rf_fs_un {a : Nat → Int32} {t : Nat} {e f : Nat × Nat} (he : rf_fs a t e = true) (hf : rf_fs a t f = true) (h1 : e.1 < 2 ^ 31) (h2 : f.1 < 2 ^ 31) (h : rf_wd a e.1 e.2 = rf_wd a f.1 f.2) : e = f := by
  have i := rf_fs_iff.mp he
  have j := rf_fs_iff.mp hf
  rw [h, j, nI_eq h2 h1] at i
  have k := rf_wd_len_eq h
  exact Prod.ext i.symm k
/-- the order of words -/
def rf_lx : List Int32 → List Int32 → Bool
  | _, [] => false
  | [], _ :: _ => true
  | x :: xs, y :: ys => if x = y then rf_lx xs ys else decide (x < y)
theorem rf_lx_r (x : List Int32) : rf_lx x [] = false := by cases x <;> rfl
theorem rf_lx_l (y : Int32) (ys : List Int32) : rf_lx [] (y :: ys) = true := rfl
theorem rf_lx_c (x y : Int32) (xs ys : List Int32) : rf_lx (x :: xs) (y :: ys) = if x = y then rf_lx xs ys else decide (x < y) := rfl
theorem rf_lx_e {x y : Int32} (h : x = y) (xs ys : List Int32) : rf_lx (x :: xs) (y :: ys) = rf_lx xs ys := by rw [rf_lx_c, if_pos h]
theorem rf_lx_n {x y : Int32} (h : ¬ x = y) (xs ys : List Int32) : rf_lx (x :: xs) (y :: ys) = decide (x < y) := by rw [rf_lx_c, if_neg h]
theorem rf_lx_irr : ∀ x : List Int32, rf_lx x x = false := by
  intro x
  induction x with
  | nil => rfl
  | cons x xs ih => rw [rf_lx_e rfl]; exact ih
theorem rf_lx_tr : ∀ x y z : List Int32, rf_lx x y = true → rf_lx y z = true → rf_lx x z = true := by
  intro x
  induction x with
  | nil =>
    intro y z h1 h2
    cases z with
    | nil => rw [rf_lx_r] at h2; cases h2
    | cons z zs => rfl
  | cons x xs ih =>
    intro y z h1 h2
    cases y with
    | nil => rw [rf_lx_r] at h1; cases h1
    | cons y ys =>
      cases z with
      | nil => rw [rf_lx_r] at h2; cases h2
      | cons z zs =>
        by_cases e1 : x = y
        · rw [rf_lx_e e1] at h1
          subst e1
          by_cases e2 : x = z
          · rw [rf_lx_e e2] at h2 ⊢
            exact ih ys zs h1 h2
          · rw [rf_lx_n e2] at h2 ⊢
            exact h2
        · rw [rf_lx_n e1, decide_eq_true_iff] at h1
          by_cases e2 : y = z
          · subst e2
            rw [rf_lx_n e1, decide_eq_true_iff]
            exact h1
          · rw [rf_lx_n e2, decide_eq_true_iff] at h2
            have h3 := Int32.lt_trans h1 h2
            have e3 : ¬ x = z := fun e => by rw [e] at h3; exact Int32.lt_irrefl h3
            rw [rf_lx_n e3, decide_eq_true_iff]
            exact h3
theorem rf_i32 {x y : Int32} (h : ¬ x = y) (g : ¬ x < y) : y < x := by
  rw [Int32.lt_iff_toInt_lt] at g ⊢
  have : ¬ x.toInt = y.toInt := fun z => h (Int32.toInt_inj.mp z)
  omega
theorem rf_lx_tot : ∀ x y : List Int32, ¬ rf_lx x y = true → ¬ rf_lx y x = true → x = y := by
  intro x
  induction x with
  | nil =>
    intro y h1 h2
    cases y with
    | nil => rfl
    | cons y ys => exact absurd rfl h1
  | cons x xs ih =>
    intro y h1 h2
    cases y with
    | nil => exact absurd rfl h2
    | cons y ys =>
      by_cases e1 : x = y
      · rw [rf_lx_e e1] at h1
        rw [rf_lx_e e1.symm] at h2
        rw [e1, ih ys h1 h2]
      · rw [rf_lx_n e1, decide_eq_true_iff] at h1
        rw [rf_lx_n (fun z => e1 z.symm), decide_eq_true_iff] at h2
        exact absurd (rf_i32 e1 h1) h2
theorem rf_lx_as {x y : List Int32} (h : rf_lx x y = true) : ¬ rf_lx y x = true := by
  intro g
  have := rf_lx_tr x y x h g
  rw [rf_lx_irr] at this
  cases this
