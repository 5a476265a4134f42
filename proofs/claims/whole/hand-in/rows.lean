section
theorem pk_us {f : Nat → Int32} {k : Nat} {x : Int32} : upd f k x k = x := if_pos rfl
theorem pk_un {f : Nat → Int32} {k j : Nat} {x : Int32} (h : j ≠ k) : upd f k x j = f j := if_neg h
theorem pk_sub {a b : Nat} (h : b ≤ a) : nI a - nI b = nI (a - b) := by
  obtain ⟨c, rfl⟩ : ∃ c, a = c + b := ⟨a - b, by omega⟩
  rw [← nI_add, Int32.add_sub_cancel, Nat.add_sub_cancel]
theorem pk_m1 (n : Nat) : nI (n + 1) + (-1) = nI n := by
  rw [← nI_1, Int32.add_assoc, show (1 : Int32) + (-1) = 0 from rfl, Int32.add_zero]
theorem pk_mul (a b : Nat) : nI a * nI b = nI (a * b) := (Int32.ofNat_mul a b).symm
theorem pk_div {a d : Nat} (ha : a < 2 ^ 31) (h0 : 0 < d) (hd : d < 2 ^ 31) : nI a / nI d = nI (a / d) := by
  apply Int32.toInt_inj.mp
  rw [lg_idiv_nonneg (by rw [nI_toInt ha]; omega) (by rw [nI_toInt hd]; omega), nI_toInt ha, nI_toInt hd, nI_toInt (Nat.lt_of_le_of_lt (Nat.div_le_self a d) ha)]
  first | rfl | exact (Int.natCast_ediv _ _).symm
theorem pk_rem {a d : Nat} (ha : a < 2 ^ 31) (h0 : 0 < d) (hd : d < 2 ^ 31) : nI a - nI a / nI d * nI d = nI (a % d) := by
  rw [pk_div ha h0 hd, pk_mul, pk_sub (Nat.div_mul_le_self a d)]
  exact congrArg nI (by have := Nat.div_add_mod' a d; omega)
theorem pk_sub_toInt {a b : Nat} (ha : a < 2 ^ 30) (hb : b < 2 ^ 30) : (nI a - nI b).toInt = (a : Int) - b := by
  rw [Int32.toInt_sub, nI_toInt (by omega), nI_toInt (by omega)]
  exact Int.bmod_eq_of_le (by omega) (by omega)
theorem pk_sneg {a b : Nat} (hb : b < 2 ^ 30) (h : a < b) : nI a - nI b < 0 := by
  rw [Int32.lt_iff_toInt_lt, pk_sub_toInt (by omega) hb, show (0 : Int32).toInt = 0 from by decide]
  omega
theorem pk_ix (x : Int32) {n : Nat} (hn : n < 2 ^ 31) : x < 0 ∨ nI n ≤ x ∨ ∃ j : Nat, j < n ∧ x = nI j := by
  by_cases h : x < 0
  · exact Or.inl h
  · obtain ⟨j, hj, rfl⟩ := nI_of h
    by_cases h2 : j < n
    · exact Or.inr (Or.inr ⟨j, h2, rfl⟩)
    · exact Or.inr (Or.inl (nI_le (by omega) hj))
theorem pk_le {x y : Int32} {A B : Prop} (a b : Nat) (f : a ≤ b → A) (g : b < a → B) (hx : x = nI a := by rfl) (hy : y = nI b := by rfl) (ha : a < 2 ^ 31 := by omega) (hb : b < 2 ^ 31 := by omega) : (x ≤ y → A) ∧ (¬ x ≤ y → B) := by
  subst hx hy
  rw [nI_leI ha hb]
  exact ⟨f, fun z => g (by omega)⟩
theorem pk_lt {x y : Int32} {A B : Prop} (a b : Nat) (f : a < b → A) (g : b ≤ a → B) (hx : x = nI a := by rfl) (hy : y = nI b := by rfl) (ha : a < 2 ^ 31 := by omega) (hb : b < 2 ^ 31 := by omega) : (x < y → A) ∧ (¬ x < y → B) := by
  subst hx hy
  rw [nI_ltI ha hb]
  exact ⟨f, fun z => g (by omega)⟩
theorem pk_eq {x y : Int32} {A B : Prop} (a b : Nat) (f : a = b → A) (g : a ≠ b → B) (hx : x = nI a := by rfl) (hy : y = nI b := by rfl) (ha : a < 2 ^ 31 := by omega) (hb : b < 2 ^ 31 := by omega) : (x = y → A) ∧ (¬ x = y → B) := by
  subst hx hy
  rw [nI_eq ha hb]
  exact ⟨f, g⟩
theorem pk_in {x : Int32} (n N : Nat) (h : n < N) (hx : x = nI n := by rfl) (hN : N < 2 ^ 31 := by omega) : vp_in x N := by
  subst hx
  exact vp_in_nI h hN
theorem pk_cl {x : Int32} (n : Nat) (hx : x = nI n := by rfl) (h : n < 2 ^ 31 := by omega) : x.toNatClampNeg = n := by
  subst hx
  exact nI_clamp h
theorem ek_if {c d A B : Prop} (e : c ↔ d) (f : d → A) (g : ¬ d → B) : (c → A) ∧ (¬ c → B) :=
  ⟨fun z => f (e.mp z), fun z => g (fun y => z (e.mpr y))⟩
theorem ek_v {α : Sort _} {P : α → Prop} {a b : α} (e : a = b) (h : P b) : P a := e ▸ h
end
section
/-- the word of length n that begins at s -/
def rf_wd (a : Nat → Int32) : Nat → Nat → List Int32
  | _, 0 => []
  | s, n + 1 => a s :: rf_wd a (s + 1) n
theorem rf_wd_0 (a : Nat → Int32) (s : Nat) : rf_wd a s 0 = [] := rfl
theorem rf_wd_s (a : Nat → Int32) (s n : Nat) : rf_wd a s (n + 1) = a s :: rf_wd a (s + 1) n := rfl
theorem rf_wd_len (a : Nat → Int32) : ∀ n s : Nat, (rf_wd a s n).length = n := by
  intro n
  induction n with
  | zero => intro s; rfl
  | succ n ih => intro s; rw [rf_wd_s, List.length_cons, ih]
theorem rf_wd_app (a : Nat → Int32) : ∀ n s : Nat, rf_wd a s (n + 1) = rf_wd a s n ++ [a (s + n)] := by
  intro n
  induction n with
  | zero => intro s; rfl
  | succ n ih =>
    intro s
    rw [rf_wd_s a s (n + 1), ih (s + 1), rf_wd_s a s n, List.cons_append, show s + 1 + n = s + (n + 1) by omega]
/-- words of one length are the same just where their letters are -/
theorem rf_wd_len_eq {a : Nat → Int32} {s n b m : Nat} (h : rf_wd a s n = rf_wd a b m) : n = m := by
  have := congrArg List.length h
  rwa [rf_wd_len, rf_wd_len] at this
/-- the word w stands at place q of the text -/
def rf_oc (a : Nat → Int32) (t : Nat) (w : List Int32) (q : Nat) : Bool := decide (q + w.length ≤ t ∧ rf_wd a q w.length = w)
theorem rf_oc_iff {a : Nat → Int32} {t : Nat} {w : List Int32} {q : Nat} : rf_oc a t w q = true ↔ q + w.length ≤ t ∧ rf_wd a q w.length = w := by
  unfold rf_oc
  exact decide_eq_true_iff
theorem rf_oc_wd {a : Nat → Int32} {t s n q : Nat} : rf_oc a t (rf_wd a s n) q = true ↔ q + n ≤ t ∧ rf_wd a q n = rf_wd a s n := by
  rw [rf_oc_iff, rf_wd_len]
/-- how many below k -/
def rf_cn (f : Nat → Bool) : Nat → Nat
  | 0 => 0
  | k + 1 => rf_cn f k + (if f k = true then 1 else 0)
theorem rf_cn_s (f : Nat → Bool) (k : Nat) : rf_cn f (k + 1) = rf_cn f k + (if f k = true then 1 else 0) := rfl
theorem rf_cn_t {f : Nat → Bool} {k : Nat} (h : f k = true) : rf_cn f (k + 1) = rf_cn f k + 1 := by rw [rf_cn_s, if_pos h]
theorem rf_cn_f {f : Nat → Bool} {k : Nat} (h : ¬ f k = true) : rf_cn f (k + 1) = rf_cn f k := by rw [rf_cn_s, if_neg h, Nat.add_zero]
theorem rf_cn_le (f : Nat → Bool) : ∀ k, rf_cn f k ≤ k := by
  intro k
  induction k with
  | zero => exact Nat.le_refl 0
  | succ k ih =>
    by_cases h : f k = true
    · rw [rf_cn_t h]; omega
    · rw [rf_cn_f h]; omega
theorem rf_cn_up {f : Nat → Bool} {m : Nat} : ∀ n : Nat, m ≤ n → (∀ q, m ≤ q → q < n → ¬ f q = true) → rf_cn f n = rf_cn f m := by
  intro n
  induction n with
  | zero => intro h _; rw [show m = 0 by omega]
  | succ n ih =>
    intro h hz
    by_cases e : m = n + 1
    · rw [e]
    · rw [rf_cn_f (hz n (by omega) (by omega))]
      exact ih (by omega) (fun q h1 h2 => hz q h1 (by omega))
theorem rf_cn_mono {f g : Nat → Bool} : ∀ n : Nat, (∀ q, q < n → f q = true → g q = true) → rf_cn f n ≤ rf_cn g n := by
  intro n
  induction n with
  | zero => intro _; exact Nat.le_refl 0
  | succ n ih =>
    intro h
    have i := ih (fun q hq => h q (by omega))
    by_cases e : f n = true
    · rw [rf_cn_t e, rf_cn_t (h n (by omega) e)]; omega
    · by_cases e2 : g n = true
      · rw [rf_cn_f e, rf_cn_t e2]; omega
      · rw [rf_cn_f e, rf_cn_f e2]; exact i
theorem rf_cn_lt {f g : Nat → Bool} {j : Nat} (hg : g j = true) (hf : ¬ f j = true) : ∀ n : Nat, j < n → (∀ q, q < n → f q = true → g q = true) → rf_cn f n < rf_cn g n := by
  intro n
  induction n with
  | zero => intro h _; omega
  | succ n ih =>
    intro hj h
    by_cases e : j = n
    · subst e
      have i := rf_cn_mono (f := f) (g := g) j (fun q hq => h q (by omega))
      rw [rf_cn_f hf, rf_cn_t hg]; omega
    · have i := ih (by omega) (fun q hq => h q (by omega))
      by_cases e1 : f n = true
      · rw [rf_cn_t e1, rf_cn_t (h n (by omega) e1)]; omega
      · by_cases e2 : g n = true
        · rw [rf_cn_f e1, rf_cn_t e2]; omega
        · rw [rf_cn_f e1, rf_cn_f e2]; exact i
theorem rf_cn_eq {f g : Nat → Bool} {n : Nat} (h : ∀ q, q < n → (f q = true ↔ g q = true)) : rf_cn f n = rf_cn g n :=
  Nat.le_antisymm (rf_cn_mono n (fun q hq => (h q hq).mp)) (rf_cn_mono n (fun q hq => (h q hq).mpr))
theorem rf_cn_sh (f : Nat → Bool) (h0 : ¬ f 0 = true) : ∀ n : Nat, rf_cn f (n + 1) = rf_cn (fun q => f (q + 1)) n := by
  intro n
  induction n with
  | zero => rw [rf_cn_f h0]; rfl
  | succ n ih =>
    by_cases e : f (n + 1) = true
    · rw [rf_cn_t e, rf_cn_t (f := fun q => f (q + 1)) e, ih]
    · rw [rf_cn_f e, rf_cn_f (f := fun q => f (q + 1)) e, ih]
theorem rf_cn_ex {f : Nat → Bool} : ∀ n : Nat, 0 < rf_cn f n → ∃ q, q < n ∧ f q = true := by
  intro n
  induction n with
  | zero => intro h; exact absurd h (Nat.lt_irrefl 0)
  | succ n ih =>
    intro h
    by_cases e : f n = true
    · exact ⟨n, by omega, e⟩
    · rw [rf_cn_f e] at h
      obtain ⟨q, hq, hf⟩ := ih h
      exact ⟨q, by omega, hf⟩
theorem rf_cn_pos {f : Nat → Bool} {q n : Nat} (hq : q < n) (h : f q = true) : 0 < rf_cn f n := by
  have := rf_cn_lt (f := fun _ => false) (g := f) h (by simp) n hq (fun _ _ z => absurd z (by simp))
  omega
/-- how often w stands in the text -/
def rf_ct (a : Nat → Int32) (t : Nat) (w : List Int32) : Nat := rf_cn (rf_oc a t w) t
theorem rf_ct_le (a : Nat → Int32) (t : Nat) (w : List Int32) : rf_ct a t w ≤ t := rf_cn_le _ _
/-- the first from i on, of d: or -3 -/
def rf_fd (f : Nat → Bool) : Nat → Nat → Int32
  | _, 0 => -3
  | i, d + 1 => if f i = true then nI i else rf_fd f (i + 1) d
theorem rf_fd_0 (f : Nat → Bool) (i : Nat) : rf_fd f i 0 = -3 := rfl
theorem rf_fd_t {f : Nat → Bool} {i d : Nat} (h : f i = true) : rf_fd f i (d + 1) = nI i := by
  show (if f i = true then nI i else rf_fd f (i + 1) d) = nI i
  rw [if_pos h]
theorem rf_fd_f {f : Nat → Bool} {i d : Nat} (h : ¬ f i = true) : rf_fd f i (d + 1) = rf_fd f (i + 1) d := by
  show (if f i = true then nI i else rf_fd f (i + 1) d) = rf_fd f (i + 1) d
  rw [if_neg h]
theorem rf_fd_c (f : Nat → Bool) : ∀ d i : Nat, (∃ q, i ≤ q ∧ q < i + d ∧ f q = true ∧ (∀ j, i ≤ j → j < q → ¬ f j = true) ∧ rf_fd f i d = nI q) ∨ ((∀ q, i ≤ q → q < i + d → ¬ f q = true) ∧ rf_fd f i d = -3) := by
  intro d
  induction d with
  | zero => intro i; exact Or.inr ⟨fun q h1 h2 => by omega, rfl⟩
  | succ d ih =>
    intro i
    by_cases e : f i = true
    · exact Or.inl ⟨i, by omega, by omega, e, fun j h1 h2 => by omega, rf_fd_t e⟩
    · rw [rf_fd_f e]
      rcases ih (i + 1) with ⟨q, h1, h2, h3, h4, h5⟩ | ⟨h1, h2⟩
      · refine Or.inl ⟨q, by omega, by omega, h3, fun j g1 g2 => ?_, h5⟩
        by_cases z : j = i
        · rw [z]; exact e
        · exact h4 j (by omega) g2
      · refine Or.inr ⟨fun q g1 g2 => ?_, h2⟩
        by_cases z : q = i
        · rw [z]; exact e
        · exact h1 q (by omega) (by omega)
theorem rf_fd_n {f : Nat → Bool} {i d : Nat} (h : ∀ q, i ≤ q → q < i + d → ¬ f q = true) : rf_fd f i d = -3 := by
  rcases rf_fd_c f d i with ⟨q, h1, h2, h3, _, _⟩ | ⟨_, h2⟩
  · exact absurd h3 (h q h1 h2)
  · exact h2
theorem rf_m3 {q : Nat} (h : q < 2 ^ 31) : ¬ nI q = -3 := by
  intro e
  have := congrArg Int32.toInt e
  rw [nI_toInt h, show (-3 : Int32).toInt = -3 by decide] at this
  omega
theorem rf_m1 {q : Nat} (h : q < 2 ^ 31) : ¬ nI q = -1 := by
  intro e
  have := congrArg Int32.toInt e
  rw [nI_toInt h, show (-1 : Int32).toInt = -1 by decide] at this
  omega
/-- the first place of w -/
def rf_fp (a : Nat → Int32) (t : Nat) (w : List Int32) : Int32 := rf_fd (rf_oc a t w) 0 t
theorem rf_fp_c (a : Nat → Int32) (t : Nat) (w : List Int32) : (∃ q, q < t ∧ rf_oc a t w q = true ∧ (∀ j, j < q → ¬ rf_oc a t w j = true) ∧ rf_fp a t w = nI q) ∨ ((∀ q, q < t → ¬ rf_oc a t w q = true) ∧ rf_fp a t w = -3) := by
  rcases rf_fd_c (rf_oc a t w) t 0 with ⟨q, h1, h2, h3, h4, h5⟩ | ⟨h1, h2⟩
  · exact Or.inl ⟨q, by omega, h3, fun j hj => h4 j (Nat.zero_le j) hj, h5⟩
  · exact Or.inr ⟨fun q hq => h1 q (Nat.zero_le q) (by omega), h2⟩
/-- (p, n): p is the first place of its word -/
def rf_fs (a : Nat → Int32) (t : Nat) (e : Nat × Nat) : Bool := decide (rf_fp a t (rf_wd a e.1 e.2) = nI e.1)
theorem rf_fs_iff {a : Nat → Int32} {t : Nat} {e : Nat × Nat} : rf_fs a t e = true ↔ rf_fp a t (rf_wd a e.1 e.2) = nI e.1 := by
  unfold rf_fs
  exact decide_eq_true_iff
theorem rf_fs_ex {a : Nat → Int32} {t p n : Nat} (ht : t ≤ 24) (hn : 1 ≤ n) (hp : p + n ≤ t) : ∃ q, q ≤ p ∧ q + n ≤ t ∧ rf_wd a q n = rf_wd a p n ∧ rf_fs a t (q, n) = true ∧ (q = p → rf_fs a t (p, n) = true) := by
  have hpp : rf_oc a t (rf_wd a p n) p = true := rf_oc_wd.mpr ⟨hp, rfl⟩
  rcases rf_fp_c a t (rf_wd a p n) with ⟨q, h1, h2, h3, h4⟩ | ⟨h1, _⟩
  · have h5 := rf_oc_wd.mp h2
    have h6 : rf_fs a t (q, n) = true := by
      rw [rf_fs_iff]
      show rf_fp a t (rf_wd a q n) = nI q
      rw [h5.2]; exact h4
    refine ⟨q, ?_, h5.1, h5.2, h6, fun z => by rw [← z]; exact h6⟩
    by_cases z : p < q
    · exact absurd hpp (h3 p z)
    · omega
  · exact absurd hpp (h1 p (by omega))
theorem rf_fs_un {a : Nat → Int32} {t : Nat} {e f : Nat × Nat} (he : rf_fs a t e = true) (hf : rf_fs a t f = true) (h1 : e.1 < 2 ^ 31) (h2 : f.1 < 2 ^ 31) (h : rf_wd a e.1 e.2 = rf_wd a f.1 f.2) : e = f := by
  have i := rf_fs_iff.mp he
  have j := rf_fs_iff.mp hf
  rw [h, j, nI_eq h2 h1] at i
  have k := rf_wd_len_eq h
  exact Prod.ext i.symm k
/-- the order of words -/
def rf_lx : List Int32 → List Int32 → Bool
  | _, [] => false
  | [], _ :: _ => true
  | x :: xs, y :: ys => if x = y then rf_lx xs ys else decide (x < y)
theorem rf_lx_r (x : List Int32) : rf_lx x [] = false := by cases x <;> rfl
theorem rf_lx_l (y : Int32) (ys : List Int32) : rf_lx [] (y :: ys) = true := rfl
theorem rf_lx_c (x y : Int32) (xs ys : List Int32) : rf_lx (x :: xs) (y :: ys) = if x = y then rf_lx xs ys else decide (x < y) := rfl
theorem rf_lx_e {x y : Int32} (h : x = y) (xs ys : List Int32) : rf_lx (x :: xs) (y :: ys) = rf_lx xs ys := by rw [rf_lx_c, if_pos h]
theorem rf_lx_n {x y : Int32} (h : ¬ x = y) (xs ys : List Int32) : rf_lx (x :: xs) (y :: ys) = decide (x < y) := by rw [rf_lx_c, if_neg h]
theorem rf_lx_irr : ∀ x : List Int32, rf_lx x x = false := by
  intro x
  induction x with
  | nil => rfl
  | cons x xs ih => rw [rf_lx_e rfl]; exact ih
theorem rf_lx_tr : ∀ x y z : List Int32, rf_lx x y = true → rf_lx y z = true → rf_lx x z = true := by
  intro x
  induction x with
  | nil =>
    intro y z h1 h2
    cases z with
    | nil => rw [rf_lx_r] at h2; cases h2
    | cons z zs => rfl
  | cons x xs ih =>
    intro y z h1 h2
    cases y with
    | nil => rw [rf_lx_r] at h1; cases h1
    | cons y ys =>
      cases z with
      | nil => rw [rf_lx_r] at h2; cases h2
      | cons z zs =>
        by_cases e1 : x = y
        · rw [rf_lx_e e1] at h1
          subst e1
          by_cases e2 : x = z
          · rw [rf_lx_e e2] at h2 ⊢
            exact ih ys zs h1 h2
          · rw [rf_lx_n e2] at h2 ⊢
            exact h2
        · rw [rf_lx_n e1, decide_eq_true_iff] at h1
          by_cases e2 : y = z
          · subst e2
            rw [rf_lx_n e1, decide_eq_true_iff]
            exact h1
          · rw [rf_lx_n e2, decide_eq_true_iff] at h2
            have h3 := Int32.lt_trans h1 h2
            have e3 : ¬ x = z := fun e => by rw [e] at h3; exact Int32.lt_irrefl h3
            rw [rf_lx_n e3, decide_eq_true_iff]
            exact h3
theorem rf_i32 {x y : Int32} (h : ¬ x = y) (g : ¬ x < y) : y < x := by
  rw [Int32.lt_iff_toInt_lt] at g ⊢
  have : ¬ x.toInt = y.toInt := fun z => h (Int32.toInt_inj.mp z)
  omega
theorem rf_lx_tot : ∀ x y : List Int32, ¬ rf_lx x y = true → ¬ rf_lx y x = true → x = y := by
  intro x
  induction x with
  | nil =>
    intro y h1 h2
    cases y with
    | nil => rfl
    | cons y ys => exact absurd rfl h1
  | cons x xs ih =>
    intro y h1 h2
    cases y with
    | nil => exact absurd rfl h2
    | cons y ys =>
      by_cases e1 : x = y
      · rw [rf_lx_e e1] at h1
        rw [rf_lx_e e1.symm] at h2
        rw [e1, ih ys h1 h2]
      · rw [rf_lx_n e1, decide_eq_true_iff] at h1
        rw [rf_lx_n (fun z => e1 z.symm), decide_eq_true_iff] at h2
        exact absurd (rf_i32 e1 h1) h2
theorem rf_lx_as {x y : List Int32} (h : rf_lx x y = true) : ¬ rf_lx y x = true := by
  intro g
  have := rf_lx_tr x y x h g
  rw [rf_lx_irr] at this
  cases this
end
section
/-- the pairs (p, 1) .. (p, k) -/
def rf_row (p : Nat) : Nat → List (Nat × Nat)
  | 0 => []
  | k + 1 => rf_row p k ++ [(p, k + 1)]
/-- all pairs with a place below the given one, in the order of the walks -/
def rf_al (t : Nat) : Nat → List (Nat × Nat)
  | 0 => []
  | p + 1 => rf_al t p ++ rf_row p (t - p)
theorem rf_row_s (p k : Nat) : rf_row p (k + 1) = rf_row p k ++ [(p, k + 1)] := rfl
theorem rf_al_s (t p : Nat) : rf_al t (p + 1) = rf_al t p ++ rf_row p (t - p) := rfl
theorem rf_row_mem {p : Nat} {e : Nat × Nat} : ∀ k : Nat, e ∈ rf_row p k ↔ e.1 = p ∧ 1 ≤ e.2 ∧ e.2 ≤ k := by
  intro k
  induction k with
  | zero =>
    constructor
    · intro h; exact absurd h List.not_mem_nil
    · intro h; omega
  | succ k ih =>
    rw [rf_row_s, List.mem_append, ih, List.mem_singleton]
    constructor
    · intro h
      rcases h with h | h
      · omega
      · rw [h]; exact ⟨rfl, by show 1 ≤ k + 1; omega, Nat.le_refl _⟩
    · intro h
      by_cases z : e.2 = k + 1
      · exact Or.inr (Prod.ext h.1 z)
      · exact Or.inl (by omega)
theorem rf_al_mem {t : Nat} {e : Nat × Nat} : ∀ p : Nat, e ∈ rf_al t p ↔ e.1 < p ∧ 1 ≤ e.2 ∧ e.2 ≤ t - e.1 := by
  intro p
  induction p with
  | zero =>
    constructor
    · intro h; exact absurd h List.not_mem_nil
    · intro h; omega
  | succ p ih =>
    rw [rf_al_s, List.mem_append, ih, rf_row_mem]
    constructor
    · intro h
      rcases h with h | h
      · omega
      · have := h.1; subst this; omega
    · intro h
      by_cases z : e.1 = p
      · subst z; exact Or.inr ⟨rfl, by omega, by omega⟩
      · exact Or.inl (by omega)
theorem rf_ind {t : Nat} {P : List (Nat × Nat) → Prop} (h0 : P []) (hs : ∀ p n, p < t → n < t - p → P (rf_al t p ++ rf_row p n) → P (rf_al t p ++ rf_row p (n + 1))) : ∀ p, p ≤ t → P (rf_al t p) := by
  intro p
  induction p with
  | zero => intro _; exact h0
  | succ p ih =>
    intro hp
    have base : P (rf_al t p ++ rf_row p 0) := by
      show P (rf_al t p ++ [])
      rw [List.append_nil]; exact ih (by omega)
    have : ∀ n, n ≤ t - p → P (rf_al t p ++ rf_row p n) := by
      intro n
      induction n with
      | zero => intro _; exact base
      | succ n ih2 => intro hn; exact hs p n (by omega) (by omega) (ih2 (by omega))
    exact this (t - p) (Nat.le_refl _)
theorem rf_row_len (p : Nat) : ∀ k, (rf_row p k).length = k := by
  intro k
  induction k with
  | zero => rfl
  | succ k ih => rw [rf_row_s, List.length_append, ih]; rfl
theorem rf_al_mono (t : Nat) : ∀ d p, (rf_al t p).length ≤ (rf_al t (p + d)).length := by
  intro d
  induction d with
  | zero => intro p; exact Nat.le_refl _
  | succ d ih =>
    intro p
    have := ih p
    rw [show p + (d + 1) = (p + d) + 1 by omega, rf_al_s, List.length_append]
    omega
theorem rf_al_300 : ∀ t : Fin 25, (rf_al t.val t.val).length ≤ 300 := by decide +kernel
theorem rf_al_room {t p n : Nat} (ht : t ≤ 24) (hp : p < t) (hn : n < t - p) : (rf_al t p ++ rf_row p n).length < 300 := by
  have h1 := rf_al_300 ⟨t, by omega⟩
  have h2 := rf_al_mono t (t - (p + 1)) (p + 1)
  rw [show p + 1 + (t - (p + 1)) = t by omega, rf_al_s, List.length_append, rf_row_len] at h2
  rw [List.length_append, rf_row_len]
  have h3 : (rf_al t t).length ≤ 300 := h1
  omega
/-- how many of a list -/
def rf_kt (f : Nat × Nat → Bool) : List (Nat × Nat) → Nat
  | [] => 0
  | e :: l => (if f e = true then 1 else 0) + rf_kt f l
theorem rf_kt_c (f : Nat × Nat → Bool) (e : Nat × Nat) (l : List (Nat × Nat)) : rf_kt f (e :: l) = (if f e = true then 1 else 0) + rf_kt f l := rfl
theorem rf_kt_app (f : Nat × Nat → Bool) (l m : List (Nat × Nat)) : rf_kt f (l ++ m) = rf_kt f l + rf_kt f m := by
  induction l with
  | nil => show rf_kt f m = 0 + rf_kt f m; omega
  | cons e l ih => rw [List.cons_append, rf_kt_c, rf_kt_c, ih]; omega
theorem rf_kt_t {f : Nat × Nat → Bool} {e : Nat × Nat} (h : f e = true) (l : List (Nat × Nat)) : rf_kt f (l ++ [e]) = rf_kt f l + 1 := by
  rw [rf_kt_app, rf_kt_c, if_pos h]; rfl
theorem rf_kt_f {f : Nat × Nat → Bool} {e : Nat × Nat} (h : ¬ f e = true) (l : List (Nat × Nat)) : rf_kt f (l ++ [e]) = rf_kt f l := by
  rw [rf_kt_app, rf_kt_c, if_neg h]; rfl
theorem rf_kt_le (f : Nat × Nat → Bool) (l : List (Nat × Nat)) : rf_kt f l ≤ l.length := by
  induction l with
  | nil => exact Nat.le_refl 0
  | cons e l ih =>
    rw [rf_kt_c, List.length_cons]
    by_cases h : f e = true
    · rw [if_pos h]; omega
    · rw [if_neg h]; omega
theorem rf_kt_all {f : Nat × Nat → Bool} {l : List (Nat × Nat)} (h : ∀ e, e ∈ l → f e = true) : rf_kt f l = l.length := by
  induction l with
  | nil => rfl
  | cons e l ih =>
    rw [rf_kt_c, List.length_cons, if_pos (h e List.mem_cons_self), ih (fun x hx => h x (List.mem_cons_of_mem e hx))]
    omega
theorem rf_kt_fil (f g : Nat × Nat → Bool) (l : List (Nat × Nat)) : rf_kt f (l.filter g) = rf_kt (fun e => g e && f e) l := by
  induction l with
  | nil => rfl
  | cons e l ih =>
    by_cases h : g e = true
    · rw [List.filter_cons_of_pos h, rf_kt_c, rf_kt_c, ih]
      simp only [h, Bool.true_and]
    · rw [List.filter_cons_of_neg h, rf_kt_c, ih]
      have h' : g e = false := by simpa using h
      simp [h']
theorem rf_kt_len (f : Nat × Nat → Bool) (l : List (Nat × Nat)) : (l.filter f).length = rf_kt f l := by
  induction l with
  | nil => rfl
  | cons e l ih =>
    by_cases h : f e = true
    · rw [List.filter_cons_of_pos h, rf_kt_c, if_pos h, List.length_cons, ih]; omega
    · rw [List.filter_cons_of_neg h, rf_kt_c, if_neg h, ih]; omega
theorem rf_kt_sum {f g h : Nat × Nat → Bool} {l : List (Nat × Nat)} (H : ∀ e, e ∈ l → f e = true → g e = true ∨ h e = true) : rf_kt f l ≤ rf_kt g l + rf_kt h l := by
  induction l with
  | nil => exact Nat.zero_le _
  | cons e l ih =>
    have i := ih (fun x hx => H x (List.mem_cons_of_mem e hx))
    have j := H e List.mem_cons_self
    rw [rf_kt_c, rf_kt_c, rf_kt_c]
    by_cases z : f e = true
    · rw [if_pos z]
      rcases j z with k | k
      · rw [if_pos k]; omega
      · rw [if_pos k]; omega
    · rw [if_neg z]; omega
theorem rf_kt_mono {f g : Nat × Nat → Bool} {l : List (Nat × Nat)} (H : ∀ e, e ∈ l → f e = true → g e = true) : rf_kt f l ≤ rf_kt g l := by
  have h0 : rf_kt (fun _ => false) l = 0 := by
    induction l with
    | nil => rfl
    | cons e l ih => rw [rf_kt_c, ih (fun x hx => H x (List.mem_cons_of_mem e hx))]; rfl
  have := rf_kt_sum (f := f) (g := g) (h := fun _ => false) (l := l) (fun e he z => Or.inl (H e he z))
  omega
theorem rf_kt_eq {f g : Nat × Nat → Bool} {l : List (Nat × Nat)} (H : ∀ e, e ∈ l → (f e = true ↔ g e = true)) : rf_kt f l = rf_kt g l :=
  Nat.le_antisymm (rf_kt_mono (fun e he => (H e he).mp)) (rf_kt_mono (fun e he => (H e he).mpr))
theorem rf_kt_ex {f : Nat × Nat → Bool} {l : List (Nat × Nat)} (h : 0 < rf_kt f l) : ∃ e, e ∈ l ∧ f e = true := by
  induction l with
  | nil => exact absurd h (Nat.lt_irrefl 0)
  | cons e l ih =>
    by_cases z : f e = true
    · exact ⟨e, List.mem_cons_self, z⟩
    · rw [rf_kt_c, if_neg z] at h
      obtain ⟨x, hx, hf⟩ := ih (by omega)
      exact ⟨x, List.mem_cons_of_mem e hx, hf⟩
theorem rf_kt_0 {f : Nat × Nat → Bool} {l : List (Nat × Nat)} (h : ∀ e, e ∈ l → ¬ f e = true) : rf_kt f l = 0 := by
  by_cases z : rf_kt f l = 0
  · exact z
  · obtain ⟨e, he, hf⟩ := rf_kt_ex (f := f) (l := l) (by omega)
    exact absurd hf (h e he)
/-- no pair stands twice -/
theorem rf_al_one (t : Nat) (b : Nat × Nat) : rf_kt (fun e => decide (e = b)) (rf_al t t) ≤ 1 := by
  refine rf_ind (t := t) (P := fun V => rf_kt (fun e => decide (e = b)) V ≤ 1) (Nat.zero_le 1) ?_ t (Nat.le_refl t)
  intro p n hp hn ih
  rw [rf_row_s, ← List.append_assoc]
  by_cases z : (p, n + 1) = b
  · have h0 : rf_kt (fun e => decide (e = b)) (rf_al t p ++ rf_row p n) = 0 := by
      apply rf_kt_0
      intro e he
      rw [decide_eq_true_iff]
      intro eb
      rw [List.mem_append, rf_al_mem, rf_row_mem, eb, ← z] at he
      rcases he with he | he
      · exact absurd he.1 (Nat.lt_irrefl p)
      · have := he.2.2; simp only at this; omega
    rw [rf_kt_t (f := fun e => decide (e = b)) (decide_eq_true_iff.mpr z), h0]
    exact Nat.le_refl _
  · rw [rf_kt_f (f := fun e => decide (e = b)) (fun y => z (decide_eq_true_iff.mp y))]
    exact ih
/-- the words of the text, each at its first place, in the order of the walks -/
def rf_L (a : Nat → Int32) (t : Nat) : List (Nat × Nat) := (rf_al t t).filter (rf_fs a t)
theorem rf_L_mem {a : Nat → Int32} {t : Nat} {e : Nat × Nat} : e ∈ rf_L a t ↔ (e.1 < t ∧ 1 ≤ e.2 ∧ e.2 ≤ t - e.1) ∧ rf_fs a t e = true := by
  unfold rf_L
  rw [List.mem_filter, rf_al_mem]
theorem rf_L_un {a : Nat → Int32} {t : Nat} (ht : t ≤ 24) {e f : Nat × Nat} (he : e ∈ rf_L a t) (hf : f ∈ rf_L a t) (h : rf_wd a e.1 e.2 = rf_wd a f.1 f.2) : e = f := by
  rw [rf_L_mem] at he hf
  exact rf_fs_un he.2 hf.2 (by omega) (by omega) h
theorem rf_L_one (a : Nat → Int32) (t : Nat) (b : Nat × Nat) : rf_kt (fun e => decide (e = b)) (rf_L a t) ≤ 1 := by
  unfold rf_L
  rw [rf_kt_fil]
  refine Nat.le_trans (rf_kt_mono (g := fun e => decide (e = b)) ?_) (rf_al_one t b)
  intro e _ h
  exact (Bool.and_eq_true_iff.mp h).2
theorem rf_L_300 {a : Nat → Int32} {t : Nat} (ht : t ≤ 24) : (rf_L a t).length ≤ 300 :=
  Nat.le_trans (List.length_filter_le _ _) (rf_al_300 ⟨t, by omega⟩)
/-- one step of the search for the next word after c: (0, 0) stands for none -/
def rf_st (a : Nat → Int32) (c : List Int32) (b e : Nat × Nat) : Nat × Nat :=
  if rf_lx c (rf_wd a e.1 e.2) = true ∧ (b.2 = 0 ∨ rf_lx (rf_wd a e.1 e.2) (rf_wd a b.1 b.2) = true) then e else b
def rf_bs (a : Nat → Int32) (c : List Int32) (V : List (Nat × Nat)) : Nat × Nat := V.foldl (rf_st a c) (0, 0)
theorem rf_bs_app (a : Nat → Int32) (c : List Int32) (V : List (Nat × Nat)) (e : Nat × Nat) : rf_bs a c (V ++ [e]) = rf_st a c (rf_bs a c V) e := by
  unfold rf_bs
  rw [List.foldl_append]; rfl
def rf_K (a : Nat → Int32) (c : List Int32) (V : List (Nat × Nat)) (b : Nat × Nat) : Prop :=
  (b = (0, 0) ∨ (b ∈ V ∧ rf_lx c (rf_wd a b.1 b.2) = true)) ∧ ∀ e, e ∈ V → rf_lx c (rf_wd a e.1 e.2) = true → b.2 ≠ 0 ∧ ¬ rf_lx (rf_wd a e.1 e.2) (rf_wd a b.1 b.2) = true
theorem rf_K_s {a : Nat → Int32} {c : List Int32} {V : List (Nat × Nat)} {b e : Nat × Nat} (he : 1 ≤ e.2) (h : rf_K a c V b) : rf_K a c (V ++ [e]) (rf_st a c b e) := by
  obtain ⟨h1, h2⟩ := h
  unfold rf_st
  by_cases z : rf_lx c (rf_wd a e.1 e.2) = true ∧ (b.2 = 0 ∨ rf_lx (rf_wd a e.1 e.2) (rf_wd a b.1 b.2) = true)
  · rw [if_pos z]
    refine ⟨Or.inr ⟨List.mem_append.mpr (Or.inr (List.mem_singleton.mpr rfl)), z.1⟩, fun f hf hc => ⟨by omega, ?_⟩⟩
    rcases List.mem_append.mp hf with hf | hf
    · obtain ⟨g1, g2⟩ := h2 f hf hc
      rcases z.2 with y | y
      · exact absurd y g1
      · exact fun x => g2 (rf_lx_tr _ _ _ x y)
    · rw [List.mem_singleton.mp hf, rf_lx_irr]
      exact Bool.false_ne_true
  · rw [if_neg z]
    refine ⟨?_, fun f hf hc => ?_⟩
    · rcases h1 with h1 | ⟨h3, h4⟩
      · exact Or.inl h1
      · exact Or.inr ⟨List.mem_append.mpr (Or.inl h3), h4⟩
    · rcases List.mem_append.mp hf with hf | hf
      · exact h2 f hf hc
      · have ef := List.mem_singleton.mp hf
        subst ef
        exact ⟨fun y => z ⟨hc, Or.inl y⟩, fun y => z ⟨hc, Or.inr y⟩⟩
theorem rf_K_f {a : Nat → Int32} {c : List Int32} : ∀ (V2 V1 : List (Nat × Nat)) (b : Nat × Nat), (∀ e, e ∈ V2 → 1 ≤ e.2) → rf_K a c V1 b → rf_K a c (V1 ++ V2) (V2.foldl (rf_st a c) b) := by
  intro V2
  induction V2 with
  | nil => intro V1 b _ h; rw [List.append_nil]; exact h
  | cons e V2 ih =>
    intro V1 b hV h
    rw [show V1 ++ e :: V2 = (V1 ++ [e]) ++ V2 by rw [List.append_assoc]; rfl, List.foldl_cons]
    exact ih (V1 ++ [e]) _ (fun x hx => hV x (List.mem_cons_of_mem e hx)) (rf_K_s (hV e List.mem_cons_self) h)
theorem rf_K_bs {a : Nat → Int32} {c : List Int32} {V : List (Nat × Nat)} (hV : ∀ e, e ∈ V → 1 ≤ e.2) : rf_K a c V (rf_bs a c V) := by
  have h : rf_K a c [] (0, 0) := ⟨Or.inl rfl, fun e he => absurd he List.not_mem_nil⟩
  exact rf_K_f V [] (0, 0) hV h
/-- the search over all pairs finds what the search over the list finds -/
theorem rf_bs_same {a : Nat → Int32} {t : Nat} (ht : t ≤ 24) (c : List Int32) : rf_bs a c (rf_al t t) = rf_bs a c (rf_L a t) := by
  unfold rf_L
  refine rf_ind (t := t) (P := fun V => rf_bs a c V = rf_bs a c (V.filter (rf_fs a t))) rfl ?_ t (Nat.le_refl t)
  intro p n hp hn ih
  rw [rf_row_s, ← List.append_assoc, rf_bs_app, List.filter_append]
  by_cases z : rf_fs a t (p, n + 1) = true
  · rw [List.filter_cons_of_pos z, List.filter_nil, rf_bs_app, ih]
  · rw [List.filter_cons_of_neg z, List.filter_nil, List.append_nil, ← ih]
    obtain ⟨q, h1, h2, h3, h4, h5⟩ := rf_fs_ex (a := a) (t := t) (p := p) (n := n + 1) ht (by omega) (by omega)
    have hqp : q ≠ p := fun y => z (h5 y)
    have hm : (q, n + 1) ∈ rf_al t p ++ rf_row p n := by
      rw [List.mem_append, rf_al_mem]
      exact Or.inl ⟨by show q < p; omega, by show 1 ≤ n + 1; omega, by show n + 1 ≤ t - q; omega⟩
    have hV : ∀ e, e ∈ rf_al t p ++ rf_row p n → 1 ≤ e.2 := by
      intro e he
      rw [List.mem_append, rf_al_mem, rf_row_mem] at he
      omega
    have hK := (rf_K_bs (a := a) (c := c) hV).2 (q, n + 1) hm
    generalize rf_bs a c (rf_al t p ++ rf_row p n) = b at hK ⊢
    unfold rf_st
    refine if_neg ?_
    intro y
    have hK' : rf_lx c (rf_wd a q (n + 1)) = true → b.2 ≠ 0 ∧ ¬ rf_lx (rf_wd a q (n + 1)) (rf_wd a b.1 b.2) = true := hK
    rw [h3] at hK'
    obtain ⟨g1, g2⟩ := hK' y.1
    rcases y.2 with x | x
    · exact g1 x
    · exact g2 x
/-- the k-th word: (0, 0) at the start -/
def rf_it (a : Nat → Int32) (t : Nat) : Nat → Nat × Nat
  | 0 => (0, 0)
  | k + 1 => rf_bs a (rf_wd a (rf_it a t k).1 (rf_it a t k).2) (rf_L a t)
theorem rf_it_s (a : Nat → Int32) (t k : Nat) : rf_it a t (k + 1) = rf_bs a (rf_wd a (rf_it a t k).1 (rf_it a t k).2) (rf_L a t) := rfl
theorem rf_L_pos {a : Nat → Int32} {t : Nat} : ∀ e, e ∈ rf_L a t → 1 ≤ e.2 := fun _ he => (rf_L_mem.mp he).1.2.1
theorem rf_it_step {a : Nat → Int32} {t : Nat} (ht : t ≤ 24) {c : List Int32} (h : 0 < rf_kt (fun e => rf_lx c (rf_wd a e.1 e.2)) (rf_L a t)) : rf_bs a c (rf_L a t) ∈ rf_L a t ∧ rf_kt (fun e => rf_lx c (rf_wd a e.1 e.2)) (rf_L a t) ≤ rf_kt (fun e => rf_lx (rf_wd a (rf_bs a c (rf_L a t)).1 (rf_bs a c (rf_L a t)).2) (rf_wd a e.1 e.2)) (rf_L a t) + 1 := by
  obtain ⟨h1, h2⟩ := rf_K_bs (a := a) (c := c) (V := rf_L a t) rf_L_pos
  obtain ⟨e, he, hc⟩ := rf_kt_ex h
  have hb : rf_bs a c (rf_L a t) ∈ rf_L a t := by
    rcases h1 with h1 | h1
    · have := (h2 e he hc).1
      rw [h1] at this
      exact absurd rfl this
    · exact h1.1
  refine ⟨hb, ?_⟩
  generalize rf_bs a c (rf_L a t) = b at h2 hb ⊢
  refine Nat.le_trans (rf_kt_sum (g := fun e => rf_lx (rf_wd a b.1 b.2) (rf_wd a e.1 e.2)) (h := fun e => decide (e = b)) ?_) (Nat.add_le_add_left (rf_L_one a t b) _)
  intro f hf hc2
  by_cases z : rf_lx (rf_wd a b.1 b.2) (rf_wd a f.1 f.2) = true
  · exact Or.inl z
  · right
    rw [decide_eq_true_iff]
    exact rf_L_un ht hf hb (rf_lx_tot _ _ (h2 f hf hc2).2 z)
theorem rf_it_cnt {a : Nat → Int32} {t : Nat} (ht : t ≤ 24) : ∀ k, k ≤ (rf_L a t).length → (rf_L a t).length ≤ rf_kt (fun e => rf_lx (rf_wd a (rf_it a t k).1 (rf_it a t k).2) (rf_wd a e.1 e.2)) (rf_L a t) + k := by
  intro k
  induction k with
  | zero =>
    intro _
    rw [rf_kt_all]
    · exact Nat.le_refl _
    · intro e he
      have := rf_L_pos e he
      show rf_lx [] (rf_wd a e.1 e.2) = true
      obtain ⟨m, hm⟩ : ∃ m, e.2 = m + 1 := ⟨e.2 - 1, by omega⟩
      rw [hm]; rfl
  | succ k ih =>
    intro hk
    have i := ih (by omega)
    have j := (rf_it_step (a := a) ht (c := rf_wd a (rf_it a t k).1 (rf_it a t k).2) (by omega)).2
    rw [rf_it_s]
    omega
theorem rf_it_mem {a : Nat → Int32} {t k : Nat} (ht : t ≤ 24) (hk : k < (rf_L a t).length) : rf_it a t (k + 1) ∈ rf_L a t := by
  have i := rf_it_cnt (a := a) ht k (by omega)
  exact (rf_it_step (a := a) ht (c := rf_wd a (rf_it a t k).1 (rf_it a t k).2) (by omega)).1
/-- the greatest number with a property: 0 if there is none -/
def rf_mx (Q : Nat → Prop) (r : Nat) : Prop := (r = 0 ∨ (1 ≤ r ∧ Q r)) ∧ ∀ n, 1 ≤ n → Q n → n ≤ r
theorem rf_mx_un {Q : Nat → Prop} {r s : Nat} (hr : rf_mx Q r) (hs : rf_mx Q s) : r = s := by
  obtain ⟨r1, r2⟩ := hr
  obtain ⟨s1, s2⟩ := hs
  have h1 : r ≤ s := by
    rcases r1 with z | z
    · omega
    · exact s2 r z.1 z.2
  have h2 : s ≤ r := by
    rcases s1 with z | z
    · omega
    · exact r2 s z.1 z.2
  omega
theorem rf_mx_iff {Q R : Nat → Prop} {r : Nat} (h : ∀ n, 1 ≤ n → (Q n ↔ R n)) (hr : rf_mx Q r) : rf_mx R r := by
  obtain ⟨r1, r2⟩ := hr
  refine ⟨?_, fun n hn hR => r2 n hn ((h n hn).mpr hR)⟩
  rcases r1 with z | z
  · exact Or.inl z
  · exact Or.inr ⟨z.1, (h r z.1).mp z.2⟩
end
section
/-- w stands at q, and l stands before it; behind it -/
def rf_wl (a : Nat → Int32) (t : Nat) (w : List Int32) (l : Int32) (q : Nat) : Bool := rf_oc a t w q && decide (1 ≤ q ∧ a (q - 1) = l)
def rf_wr (a : Nat → Int32) (t : Nat) (w : List Int32) (l : Int32) (q : Nat) : Bool := rf_oc a t w q && decide (q + w.length < t ∧ a (q + w.length) = l)
theorem rf_wl_iff {a : Nat → Int32} {t : Nat} {w : List Int32} {l : Int32} {q : Nat} : rf_wl a t w l q = true ↔ rf_oc a t w q = true ∧ 1 ≤ q ∧ a (q - 1) = l := by
  unfold rf_wl
  rw [Bool.and_eq_true_iff, decide_eq_true_iff]
theorem rf_wr_iff {a : Nat → Int32} {t : Nat} {w : List Int32} {l : Int32} {q : Nat} : rf_wr a t w l q = true ↔ rf_oc a t w q = true ∧ q + w.length < t ∧ a (q + w.length) = l := by
  unfold rf_wr
  rw [Bool.and_eq_true_iff, decide_eq_true_iff]
theorem rf_wl_lt {a : Nat → Int32} {t : Nat} {w : List Int32} {l : Int32} {p : Nat} (hp : p < t) (h : rf_oc a t w p = true) (hn : ¬ (1 ≤ p ∧ a (p - 1) = l)) : rf_cn (rf_wl a t w l) t < rf_ct a t w :=
  rf_cn_lt (j := p) h (fun z => hn (rf_wl_iff.mp z).2) t hp (fun _ _ z => (rf_wl_iff.mp z).1)
theorem rf_wr_lt {a : Nat → Int32} {t : Nat} {w : List Int32} {l : Int32} {p : Nat} (hp : p < t) (h : rf_oc a t w p = true) (hn : ¬ (p + w.length < t ∧ a (p + w.length) = l)) : rf_cn (rf_wr a t w l) t < rf_ct a t w :=
  rf_cn_lt (j := p) h (fun z => hn (rf_wr_iff.mp z).2) t hp (fun _ _ z => (rf_wr_iff.mp z).1)
theorem rf_wl_ct {a : Nat → Int32} {t p n : Nat} (hn : 1 ≤ n) (ht : 1 ≤ t) : rf_cn (rf_wl a t (rf_wd a (p + 1) n) (a p)) t = rf_ct a t (rf_wd a p (n + 1)) := by
  obtain ⟨u, rfl⟩ : ∃ u, t = u + 1 := ⟨t - 1, by omega⟩
  have h0 : ¬ rf_wl a (u + 1) (rf_wd a (p + 1) n) (a p) 0 = true := fun z => by
    have := (rf_wl_iff.mp z).2.1
    omega
  have h1 : ¬ rf_oc a (u + 1) (rf_wd a p (n + 1)) u = true := fun z => by
    have := (rf_oc_wd.mp z).1
    omega
  unfold rf_ct
  rw [rf_cn_sh _ h0, rf_cn_f h1]
  apply rf_cn_eq
  intro q hq
  show rf_wl a (u + 1) (rf_wd a (p + 1) n) (a p) (q + 1) = true ↔ _
  rw [rf_wl_iff, rf_oc_wd, rf_oc_wd, rf_wd_s, rf_wd_s, List.cons.injEq, Nat.add_sub_cancel]
  constructor
  · intro ⟨⟨g1, g2⟩, _, g3⟩
    exact ⟨by omega, g3, g2⟩
  · intro ⟨g1, g2, g3⟩
    exact ⟨⟨by omega, g3⟩, by omega, g2⟩
theorem rf_wr_ct {a : Nat → Int32} {t p n : Nat} : rf_cn (rf_wr a t (rf_wd a p n) (a (p + n))) t = rf_ct a t (rf_wd a p (n + 1)) := by
  unfold rf_ct
  apply rf_cn_eq
  intro q hq
  rw [rf_wr_iff, rf_oc_wd, rf_oc_wd, rf_wd_app, rf_wd_app, rf_wd_len]
  constructor
  · intro ⟨⟨g1, g2⟩, g3, g4⟩
    exact ⟨by omega, by rw [g2, g4]⟩
  · intro ⟨g1, g2⟩
    have g3 := List.append_inj g2 (by rw [rf_wd_len, rf_wd_len])
    exact ⟨⟨by omega, g3.1⟩, by omega, (List.cons.inj g3.2).1⟩
/-- X's test, and Y's -/
def rf_xm (a : Nat → Int32) (t : Nat) (e : Nat × Nat) : Bool := decide (2 ≤ rf_ct a t (rf_wd a e.1 e.2) ∧ ¬ (0 < e.1 ∧ rf_ct a t (rf_wd a (e.1 - 1) (e.2 + 1)) = rf_ct a t (rf_wd a e.1 e.2)) ∧ (t ≤ e.1 + e.2 ∨ rf_ct a t (rf_wd a e.1 (e.2 + 1)) < rf_ct a t (rf_wd a e.1 e.2)))
noncomputable def rf_ym (a : Nat → Int32) (t : Nat) (e : Nat × Nat) : Bool := @decide (2 ≤ rf_ct a t (rf_wd a e.1 e.2) ∧ ∀ l, l < 4 → rf_cn (rf_wl a t (rf_wd a e.1 e.2) (nI l)) t ≠ rf_ct a t (rf_wd a e.1 e.2) ∧ rf_cn (rf_wr a t (rf_wd a e.1 e.2) (nI l)) t ≠ rf_ct a t (rf_wd a e.1 e.2)) (Classical.propDecidable _)
theorem rf_ym_iff {a : Nat → Int32} {t : Nat} {e : Nat × Nat} : rf_ym a t e = true ↔ (2 ≤ rf_ct a t (rf_wd a e.1 e.2) ∧ ∀ l, l < 4 → rf_cn (rf_wl a t (rf_wd a e.1 e.2) (nI l)) t ≠ rf_ct a t (rf_wd a e.1 e.2) ∧ rf_cn (rf_wr a t (rf_wd a e.1 e.2) (nI l)) t ≠ rf_ct a t (rf_wd a e.1 e.2)) := by
  unfold rf_ym
  exact @decide_eq_true_iff _ (Classical.propDecidable _)
/-- the letters of the text are 0 to 3 -/
def rf_ok (a : Nat → Int32) (t : Nat) : Prop := ∀ q, q < t → ∃ l, l < 4 ∧ a q = nI l
theorem rf_maxL {a : Nat → Int32} {t p n : Nat} (hl : rf_ok a t) (hn : 1 ≤ n) (hp : p + n ≤ t) : (∀ l, l < 4 → rf_cn (rf_wl a t (rf_wd a p n) (nI l)) t ≠ rf_ct a t (rf_wd a p n)) ↔ ¬ (0 < p ∧ rf_ct a t (rf_wd a (p - 1) (n + 1)) = rf_ct a t (rf_wd a p n)) := by
  have ho : rf_oc a t (rf_wd a p n) p = true := rf_oc_wd.mpr ⟨hp, rfl⟩
  constructor
  · intro h ⟨h0, h1⟩
    obtain ⟨m, rfl⟩ : ∃ m, p = m + 1 := ⟨p - 1, by omega⟩
    rw [Nat.add_sub_cancel] at h1
    obtain ⟨l, l4, el⟩ := hl m (by omega)
    apply h l l4
    rw [← el, rf_wl_ct hn (by omega), h1]
  · intro h l l4 e
    by_cases z : 1 ≤ p ∧ a (p - 1) = nI l
    · obtain ⟨m, rfl⟩ : ∃ m, p = m + 1 := ⟨p - 1, by omega⟩
      rw [Nat.add_sub_cancel] at z h
      rw [← z.2, rf_wl_ct hn (by omega)] at e
      exact h ⟨by omega, e⟩
    · have := rf_wl_lt (by omega) ho z
      omega
theorem rf_maxR {a : Nat → Int32} {t p n : Nat} (hl : rf_ok a t) (hn : 1 ≤ n) (hp : p + n ≤ t) : (∀ l, l < 4 → rf_cn (rf_wr a t (rf_wd a p n) (nI l)) t ≠ rf_ct a t (rf_wd a p n)) ↔ (t ≤ p + n ∨ rf_ct a t (rf_wd a p (n + 1)) < rf_ct a t (rf_wd a p n)) := by
  have ho : rf_oc a t (rf_wd a p n) p = true := rf_oc_wd.mpr ⟨hp, rfl⟩
  have hle : rf_ct a t (rf_wd a p (n + 1)) ≤ rf_ct a t (rf_wd a p n) := by
    rw [← rf_wr_ct]
    exact rf_cn_mono t (fun _ _ z => (rf_wr_iff.mp z).1)
  constructor
  · intro h
    by_cases z : t ≤ p + n
    · exact Or.inl z
    · right
      obtain ⟨l, l4, el⟩ := hl (p + n) (by omega)
      have := h l l4
      rw [← el, rf_wr_ct] at this
      omega
  · intro h l l4 e
    by_cases z : p + (rf_wd a p n).length < t ∧ a (p + (rf_wd a p n).length) = nI l
    · rw [rf_wd_len] at z
      rw [← z.2, rf_wr_ct] at e
      omega
    · have := rf_wr_lt (by omega) ho z
      omega
theorem rf_max {a : Nat → Int32} {t : Nat} {e : Nat × Nat} (hl : rf_ok a t) (hn : 1 ≤ e.2) (hp : e.1 + e.2 ≤ t) : rf_xm a t e = true ↔ rf_ym a t e = true := by
  unfold rf_xm
  rw [rf_ym_iff, decide_eq_true_iff, ← rf_maxL hl hn hp, ← rf_maxR hl hn hp]
  constructor
  · intro ⟨h1, h2, h3⟩
    exact ⟨h1, fun l l4 => ⟨h2 l l4, h3 l l4⟩⟩
  · intro ⟨h1, h2⟩
    exact ⟨h1, fun l l4 => (h2 l l4).1, fun l l4 => (h2 l l4).2⟩
/-- the numbers of words, of maximal repeats, of words before one: over all pairs, and over the list -/
theorem rf_words (a : Nat → Int32) (t : Nat) : rf_kt (rf_fs a t) (rf_al t t) = (rf_L a t).length := (rf_kt_len _ _).symm
theorem rf_reps {a : Nat → Int32} {t : Nat} (hl : rf_ok a t) : rf_kt (fun e => rf_fs a t e && rf_xm a t e) (rf_al t t) = rf_kt (rf_ym a t) (rf_L a t) := by
  unfold rf_L
  rw [rf_kt_fil]
  apply rf_kt_eq
  intro e he
  rw [rf_al_mem] at he
  rw [Bool.and_eq_true_iff, Bool.and_eq_true_iff, rf_max hl he.2.1 (by omega)]
theorem rf_rank (a : Nat → Int32) (t : Nat) (w : List Int32) : rf_kt (fun e => rf_lx (rf_wd a e.1 e.2) w && rf_fs a t e) (rf_al t t) = rf_kt (fun e => rf_lx (rf_wd a e.1 e.2) w) (rf_L a t) := by
  unfold rf_L
  rw [rf_kt_fil]
  apply rf_kt_eq
  intro e _
  rw [Bool.and_eq_true_iff, Bool.and_eq_true_iff]
  exact And.comm
/-- some word of length n stands at least m times: over all places, and over the list -/
def rf_Q (a : Nat → Int32) (t m n : Nat) : Prop := ∃ p, p + n ≤ t ∧ m ≤ rf_ct a t (rf_wd a p n)
def rf_QL (a : Nat → Int32) (t m : Nat) (V : List (Nat × Nat)) (n : Nat) : Prop := ∃ e, e ∈ V ∧ e.2 = n ∧ m ≤ rf_ct a t (rf_wd a e.1 e.2)
theorem rf_Q_iff {a : Nat → Int32} {t m n : Nat} (ht : t ≤ 24) (hn : 1 ≤ n) : rf_QL a t m (rf_L a t) n ↔ rf_Q a t m n := by
  constructor
  · intro ⟨e, he, h1, h2⟩
    rw [rf_L_mem] at he
    subst h1
    exact ⟨e.1, by omega, h2⟩
  · intro ⟨p, h1, h2⟩
    obtain ⟨q, g1, g2, g3, g4, _⟩ := rf_fs_ex (a := a) ht hn h1
    refine ⟨(q, n), rf_L_mem.mpr ⟨⟨by show q < t; omega, hn, by show n ≤ t - q; omega⟩, g4⟩, rfl, ?_⟩
    show m ≤ rf_ct a t (rf_wd a q n)
    rw [g3]; exact h2
/-- some word of length n of the probe stands in the text -/
def rf_C (a : Nat → Int32) (t r n : Nat) : Prop := ∃ p, p + n ≤ r ∧ 0 < rf_ct a t (rf_wd a (24 + p) n)
theorem rf_fp_ct {a : Nat → Int32} {t : Nat} {w : List Int32} (ht : t ≤ 24) : ¬ rf_fp a t w = -3 ↔ 0 < rf_ct a t w := by
  rcases rf_fp_c a t w with ⟨q, h1, h2, h3, h4⟩ | ⟨h1, h2⟩
  · rw [h4]
    exact ⟨fun _ => rf_cn_pos h1 h2, fun _ => rf_m3 (by omega)⟩
  · constructor
    · intro h; exact absurd h2 h
    · intro h
      obtain ⟨q, hq, hf⟩ := rf_cn_ex t h
      exact absurd hf (h1 q hq)
/-- two loops, one within the other, over all pairs -/
theorem rf_nest {σ : Type} (t : Nat) (I : List (Nat × Nat) → σ → Prop) (O : Nat → Nat → σ → Prop) (N : Nat → Nat → Nat → Nat → σ → Prop)
    (hx : ∀ f s, I (rf_al t t) s → O (f + 1) t s)
    (ho : ∀ f p s, p < t → (∃ m, N f m p 0 s) → O (f + 1) p s)
    (hy : ∀ f m p s, p < t → O f (p + 1) s → N f (m + 1) p (t - p) s)
    (hs : ∀ f m p k s, p < t → k < t - p → I (rf_al t p ++ rf_row p k) s → (∀ s', I (rf_al t p ++ rf_row p (k + 1)) s' → N f m p (k + 1) s') → N f (m + 1) p k s) :
    ∀ d p s, p + d = t → I (rf_al t p) s → O (d + 1) p s := by
  intro d
  induction d with
  | zero =>
    intro p s hp h
    have : p = t := by omega
    subst this
    exact hx 0 s h
  | succ d ih =>
    intro p s hp h
    have inner : ∀ j k s, k + j = t - p → I (rf_al t p ++ rf_row p k) s → N (d + 1) (j + 1) p k s := by
      intro j
      induction j with
      | zero =>
        intro k s hk hI
        have : k = t - p := by omega
        subst this
        exact hy (d + 1) 0 p s (by omega) (ih (p + 1) s (by omega) hI)
      | succ j ihj =>
        intro k s hk hI
        exact hs (d + 1) (j + 1) p k s (by omega) (by omega) hI (fun s' hI' => ihj (k + 1) s' (by omega) hI')
    refine ho (d + 1) p s (by omega) ⟨(t - p) + 1, inner (t - p) 0 s (by omega) ?_⟩
    show I (rf_al t p ++ []) s
    rw [List.append_nil]; exact h
theorem rf_nest0 {σ : Type} (t : Nat) (I : List (Nat × Nat) → σ → Prop) (O : Nat → Nat → σ → Prop) (N : Nat → Nat → Nat → Nat → σ → Prop)
    (s : σ) (h : I [] s)
    (hx : ∀ f s, I (rf_al t t) s → O (f + 1) t s)
    (ho : ∀ f p s, p < t → (∃ m, N f m p 0 s) → O (f + 1) p s)
    (hy : ∀ f m p s, p < t → O f (p + 1) s → N f (m + 1) p (t - p) s)
    (hs : ∀ f m p k s, p < t → k < t - p → I (rf_al t p ++ rf_row p k) s → (∀ s', I (rf_al t p ++ rf_row p (k + 1)) s' → N f m p (k + 1) s') → N f (m + 1) p k s) :
    ∃ f, O f 0 s :=
  ⟨t + 1, rf_nest t I O N hx ho hy hs t 0 s (by omega) h⟩
end
section
/-- a truth value as the machine holds it -/
def rf_b (c : Bool) : Int32 := if c = true then 1 else 0
theorem rf_b_t {c : Bool} (h : c = true) : rf_b c = 1 := if_pos h
theorem rf_b_f {c : Bool} (h : ¬ c = true) : rf_b c = 0 := if_neg h
theorem rf_b_if {c : Bool} {A B : Prop} (f : c = true → B) (g : ¬ c = true → A) : (rf_b c = 0 → A) ∧ (¬ rf_b c = 0 → B) := by
  by_cases h : c = true
  · rw [rf_b_t h]; exact ⟨fun z => absurd z (by decide), fun _ => f h⟩
  · rw [rf_b_f h]; exact ⟨fun _ => g h, fun z => absurd rfl z⟩
/-- the reference's order of two words -/
def rf_od (x y : List Int32) : Int32 := if rf_lx x y = true then -1 else if rf_lx y x = true then 1 else 0
theorem rf_od_neg {x y : List Int32} : rf_od x y < 0 ↔ rf_lx x y = true := by
  unfold rf_od
  by_cases h1 : rf_lx x y = true
  · rw [if_pos h1]; exact ⟨fun _ => h1, fun _ => by decide⟩
  · rw [if_neg h1]
    by_cases h2 : rf_lx y x = true
    · rw [if_pos h2]; exact ⟨fun z => absurd z (by decide), fun z => absurd z h1⟩
    · rw [if_neg h2]; exact ⟨fun z => absurd z (by decide), fun z => absurd z h1⟩
theorem rf_od_pos {x y : List Int32} : 0 < rf_od x y ↔ rf_lx y x = true := by
  unfold rf_od
  by_cases h1 : rf_lx x y = true
  · rw [if_pos h1]; exact ⟨fun z => absurd z (by decide), fun z => absurd z (rf_lx_as h1)⟩
  · rw [if_neg h1]
    by_cases h2 : rf_lx y x = true
    · rw [if_pos h2]; exact ⟨fun _ => h2, fun _ => by decide⟩
    · rw [if_neg h2]; exact ⟨fun z => absurd z (by decide), fun z => absurd z h2⟩
theorem rf_od_e {x y : Int32} (h : x = y) (xs ys : List Int32) : rf_od (x :: xs) (y :: ys) = rf_od xs ys := by
  unfold rf_od
  rw [rf_lx_e h, rf_lx_e h.symm]
theorem rf_od_lt {x y : Int32} (h : x < y) (xs ys : List Int32) : rf_od (x :: xs) (y :: ys) = -1 := by
  have n : ¬ x = y := fun e => by rw [e] at h; exact Int32.lt_irrefl h
  unfold rf_od
  rw [rf_lx_n n, if_pos (decide_eq_true_iff.mpr h)]
theorem rf_od_gt {x y : Int32} (n : ¬ x = y) (h : ¬ x < y) (xs ys : List Int32) : rf_od (x :: xs) (y :: ys) = 1 := by
  unfold rf_od
  rw [rf_lx_n n, if_neg (fun z => h (decide_eq_true_iff.mp z)), rf_lx_n (fun z => n z.symm), if_pos (decide_eq_true_iff.mpr (rf_i32 n h))]
theorem rf_od_00 : rf_od [] [] = 0 := rfl
theorem rf_od_0l (y : Int32) (ys : List Int32) : rf_od [] (y :: ys) = -1 := rfl
theorem rf_od_0r (x : Int32) (xs : List Int32) : rf_od (x :: xs) [] = 1 := rfl
/-- a text moved by one up to i -/
def rf_sh (a : Nat → Int32) (i : Nat) : Nat → Int32 := fun j => if j < i then a (j + 1) else a j
theorem rf_sh_0 (a : Nat → Int32) : rf_sh a 0 = a := funext fun j => if_neg (Nat.not_lt_zero j)
theorem rf_sh_lo {a : Nat → Int32} {i j : Nat} (h : j < i) : rf_sh a i j = a (j + 1) := if_pos h
theorem rf_sh_hi {a : Nat → Int32} {i j : Nat} (h : i ≤ j) : rf_sh a i j = a j := if_neg (by omega)
theorem rf_sh_s (a : Nat → Int32) (i : Nat) : upd (rf_sh a i) i (rf_sh a i (i + 1)) = rf_sh a (i + 1) := by
  funext j
  by_cases h : j = i
  · subst h
    rw [pk_us, rf_sh_hi (by omega), rf_sh_lo (by omega)]
  · rw [pk_un h]
    by_cases g : j < i
    · rw [rf_sh_lo g, rf_sh_lo (by omega)]
    · rw [rf_sh_hi (by omega), rf_sh_hi (by omega)]
/-- the reference's list holds V -/
def rf_H (lp ll : Nat → Int32) (V : List (Nat × Nat)) : Prop := ∀ (i : Nat) (e : Nat × Nat), V[i]? = some e → lp i = nI e.1 ∧ ll i = nI e.2
theorem rf_H_0 {lp ll : Nat → Int32} : rf_H lp ll [] := by
  intro i e h
  simp at h
theorem rf_H_s {lp ll : Nat → Int32} {V : List (Nat × Nat)} {p n : Nat} (h : rf_H lp ll V) : rf_H (upd lp V.length (nI p)) (upd ll V.length (nI n)) (V ++ [(p, n)]) := by
  intro i e he
  by_cases z : i = V.length
  · subst z
    rw [List.getElem?_append_right (Nat.le_refl _), Nat.sub_self] at he
    have := Option.some.inj he
    subst this
    rw [pk_us, pk_us]
    exact ⟨rfl, rfl⟩
  · have hi : i < V.length := by
      have := (List.getElem?_eq_some_iff.mp he).1
      rw [List.length_append] at this
      have h1 : [(p, n)].length = 1 := rfl
      omega
    rw [List.getElem?_append_left hi] at he
    rw [pk_un z, pk_un z]
    exact h i e he
theorem rf_H_at {lp ll : Nat → Int32} {V1 V2 : List (Nat × Nat)} {e : Nat × Nat} (h : rf_H lp ll (V1 ++ e :: V2)) : lp V1.length = nI e.1 ∧ ll V1.length = nI e.2 :=
  h V1.length e (by rw [List.getElem?_append_right (Nat.le_refl _), Nat.sub_self]; rfl)
theorem rf_at {V1 V2 : List (Nat × Nat)} {e : Nat × Nat} : (V1 ++ e :: V2)[V1.length]? = some e := by
  rw [List.getElem?_append_right (Nat.le_refl _), Nat.sub_self]; rfl
theorem rf_mid {V1 V2 : List (Nat × Nat)} {e : Nat × Nat} : V1 ++ e :: V2 = (V1 ++ [e]) ++ V2 := by rw [List.append_assoc]; rfl
theorem rf_len1 {V1 : List (Nat × Nat)} {e : Nat × Nat} : (V1 ++ [e]).length = V1.length + 1 := by rw [List.length_append]; rfl
/-- only the text below t matters to the list -/
theorem rf_wd_cong {a b : Nat → Int32} : ∀ n s : Nat, (∀ j, s ≤ j → j < s + n → a j = b j) → rf_wd a s n = rf_wd b s n := by
  intro n
  induction n with
  | zero => intro s _; rfl
  | succ n ih =>
    intro s h
    rw [rf_wd_s, rf_wd_s, h s (by omega) (by omega), ih (s + 1) (fun j h1 h2 => h j (by omega) (by omega))]
theorem rf_oc_cong {a b : Nat → Int32} {t : Nat} (h : ∀ j, j < t → a j = b j) (w : List Int32) : rf_oc a t w = rf_oc b t w := by
  funext q
  have : rf_oc a t w q = true ↔ rf_oc b t w q = true := by
    rw [rf_oc_iff, rf_oc_iff]
    constructor
    · intro ⟨h1, h2⟩
      refine ⟨h1, ?_⟩
      rw [← rf_wd_cong w.length q (fun j _ g => h j (by omega))]; exact h2
    · intro ⟨h1, h2⟩
      refine ⟨h1, ?_⟩
      rw [rf_wd_cong w.length q (fun j _ g => h j (by omega))]; exact h2
  exact Bool.eq_iff_iff.mpr this
theorem rf_L_cong {a b : Nat → Int32} {t : Nat} (h : ∀ j, j < t → a j = b j) : rf_L a t = rf_L b t := by
  unfold rf_L
  apply List.filter_congr
  intro e he
  rw [rf_al_mem] at he
  have hw : rf_wd a e.1 e.2 = rf_wd b e.1 e.2 := rf_wd_cong e.2 e.1 (fun j _ g => h j (by omega))
  unfold rf_fs rf_fp
  rw [hw, rf_oc_cong h]
theorem rf_ok_cong {a b : Nat → Int32} {t : Nat} (h : ∀ j, j < t → b j = a j) (g : rf_ok a t) : rf_ok b t := by
  intro q hq
  rw [h q hq]; exact g q hq
theorem rf_ok_put {a : Nat → Int32} {t l : Nat} (hl : l < 4) (g : rf_ok a t) : rf_ok (upd a t (nI l)) (t + 1) := by
  intro q hq
  by_cases z : q = t
  · subst z; exact ⟨l, hl, pk_us⟩
  · rw [pk_un z]; exact g q (by omega)
theorem rf_ok_sh {a : Nat → Int32} {t : Nat} (g : rf_ok a (t + 1)) : rf_ok (rf_sh a t) t := by
  intro q hq
  rw [rf_sh_lo hq]; exact g (q + 1) (by omega)
end
section
theorem rx_occ15 {post : Int32 → Prop} {a : Nat → Int32} {t r q s n : Nat} (hq : q + n ≤ 36) (hs : s + n ≤ 36) : ∀ d i : Nat, i + d = n → (rf_wd a (q + i) d = rf_wd a (s + i) d → post 1) → (¬ rf_wd a (q + i) d = rf_wd a (s + i) d → post 0) → wX_occursAt_15 post (nI q) (nI s) (nI n) (nI t) (nI r) a (d + 1) (nI i) := by
  intro d
  induction d with
  | zero =>
    intro i hi h1 h0
    exact pk_le n i (fun _ => h1 rfl) (fun h => by omega)
  | succ d ih =>
    intro i hi h1 h0
    refine pk_le n i (fun h => by omega) (fun _ => ⟨pk_in (q + i) 36 (by omega) (nI_add q i), pk_in (s + i) 36 (by omega) (nI_add s i), ?_⟩)
    rw [pk_cl (q + i) (nI_add q i), pk_cl (s + i) (nI_add s i)]
    by_cases hab : a (q + i) = a (s + i)
    · refine br_t hab (nm_r (nI_1 i) (ih (i + 1) (by omega) (fun e => h1 ?_) (fun ne => h0 (fun e => ne ?_))))
      · show a (q + i) :: rf_wd a (q + (i + 1)) d = a (s + i) :: rf_wd a (s + (i + 1)) d
        rw [hab, e]
      · exact (List.cons.inj (show a (q + i) :: rf_wd a (q + (i + 1)) d = a (s + i) :: rf_wd a (s + (i + 1)) d from e)).2
    · refine br_f hab (h0 (fun e => hab ?_))
      exact (List.cons.inj (show a (q + i) :: rf_wd a (q + (i + 1)) d = a (s + i) :: rf_wd a (s + (i + 1)) d from e)).1
theorem rx_occ {post : Int32 → Prop} {a : Nat → Int32} {t r q s n : Nat} (ht : t ≤ 24) (hq : q < t) (hs : s + n ≤ 36) (hp : post (rf_b (rf_oc a t (rf_wd a s n) q))) : wpX_occursAt post (nI t, nI r, a) (nI q) (nI s) (nI n) := by
  refine pk_le n (t - q) (fun h => ⟨n + 1, rx_occ15 (by omega) hs n 0 (by omega) (fun e => ?_) (fun ne => ?_)⟩) (fun h => ?_) rfl (pk_sub (by omega)) (by omega) (by omega)
  · rw [rf_b_t ((rf_oc_wd (a := a) (t := t) (s := s) (n := n) (q := q)).mpr ⟨by omega, e⟩)] at hp
    exact hp
  · rw [rf_b_f (fun z => ne ((rf_oc_wd (a := a) (t := t) (s := s) (n := n) (q := q)).mp z).2)] at hp
    exact hp
  · rw [rf_b_f (fun z => by have := (rf_oc_wd.mp z).1; omega)] at hp
    exact hp
theorem rx_cnt5 {post : Int32 → Prop} {a : Nat → Int32} {t r s n : Nat} (ht : t ≤ 24) (hs : s + n ≤ 36) (hp : post (nI (rf_ct a t (rf_wd a s n)))) : ∀ d q : Nat, q + d = t → wX_countOf_5 post (nI s) (nI n) (nI t) (nI r) a (d + 1) (nI (rf_cn (rf_oc a t (rf_wd a s n)) q)) (nI q) := by
  intro d
  induction d with
  | zero =>
    intro q hq
    have : q = t := by omega
    subst this
    exact pk_le q q (fun _ => hp) (fun h => by omega)
  | succ d ih =>
    intro q hq
    refine pk_le t q (fun h => by omega) (fun _ => rx_occ ht (by omega) hs (rf_b_if (fun h => ?_) (fun h => ?_)))
    · have := ih (q + 1) (by omega)
      rw [rf_cn_t h] at this
      exact nm_r (nI_1 _) (nm_r (nI_1 q) this)
    · have := ih (q + 1) (by omega)
      rw [rf_cn_f h] at this
      exact nm_r (nI_1 q) this
theorem rx_cnt {post : Int32 → Prop} {a : Nat → Int32} {t r s n : Nat} (ht : t ≤ 24) (hs : s + n ≤ 36) (hp : post (nI (rf_ct a t (rf_wd a s n)))) : wpX_countOf post (nI t, nI r, a) (nI s) (nI n) :=
  ⟨t + 1, rx_cnt5 ht hs hp t 0 (by omega)⟩
theorem rx_fp2 {post : Int32 → Prop} {a : Nat → Int32} {t r s n : Nat} (ht : t ≤ 24) (hs : s + n ≤ 36) : ∀ d q : Nat, q + d = t → post (rf_fd (rf_oc a t (rf_wd a s n)) q d) → wX_firstPlaceOf_2 post (nI s) (nI n) (nI t) (nI r) a (d + 1) (nI q) := by
  intro d
  induction d with
  | zero =>
    intro q hq hp
    exact pk_le t q (fun _ => hp) (fun h => by omega)
  | succ d ih =>
    intro q hq hp
    refine pk_le t q (fun h => by omega) (fun _ => rx_occ ht (by omega) hs (rf_b_if (fun h => ?_) (fun h => ?_)))
    · rw [rf_fd_t h] at hp
      exact hp
    · rw [rf_fd_f h] at hp
      exact nm_r (nI_1 q) (ih (q + 1) (by omega) hp)
theorem rx_fp {post : Int32 → Prop} {a : Nat → Int32} {t r s n : Nat} (ht : t ≤ 24) (hs : s + n ≤ 36) (hp : post (rf_fp a t (rf_wd a s n))) : wpX_firstPlaceOf post (nI t, nI r, a) (nI s) (nI n) :=
  ⟨t + 1, rx_fp2 ht hs t 0 (by omega) hp⟩
theorem rx_fs {post : Int32 → Prop} {a : Nat → Int32} {t r p n : Nat} (ht : t ≤ 24) (hs : p + n ≤ 36) (hp : post (rf_b (rf_fs a t (p, n)))) : wpX_isFirstOfItsWord post (nI t, nI r, a) (nI p) (nI n) := by
  refine rx_fp (post := fun r_1 => (r_1 = nI p → post 1) ∧ (¬ r_1 = nI p → post 0)) ht hs ?_
  by_cases h : rf_fp a t (rf_wd a p n) = nI p
  · rw [rf_b_t (rf_fs_iff.mpr h)] at hp
    exact br_t h hp
  · rw [rf_b_f (fun z => h (rf_fs_iff.mp z))] at hp
    exact br_f h hp
theorem rf_rt {f : Nat × Nat → Bool} {t p k : Nat} (h : f (p, k + 1) = true) : rf_kt f (rf_al t p ++ rf_row p (k + 1)) = rf_kt f (rf_al t p ++ rf_row p k) + 1 := by
  rw [rf_row_s, ← List.append_assoc, rf_kt_t h]
theorem rf_rf {f : Nat × Nat → Bool} {t p k : Nat} (h : ¬ f (p, k + 1) = true) : rf_kt f (rf_al t p ++ rf_row p (k + 1)) = rf_kt f (rf_al t p ++ rf_row p k) := by
  rw [rf_row_s, ← List.append_assoc, rf_kt_f h]
theorem rx_words {post : Int32 → Prop} {a : Nat → Int32} {t r : Nat} (ht : t ≤ 24) (hp : post (nI (rf_L a t).length)) : wpX_words post (nI t, nI r, a) := by
  refine rf_nest0 (σ := Nat) t (fun V s => s = rf_kt (rf_fs a t) V) (fun f p s => wX_words_4 post (nI t) (nI r) a f (nI s) (nI p)) (fun f m p k s => wX_words_14 post (wX_words_4 post (nI t) (nI r) a f) (nI p) (nI t) (nI r) a m (nI s) (nI (k + 1))) 0 rfl ?_ ?_ ?_ ?_
  · intro f s hs
    rw [rf_words] at hs
    subst hs
    exact pk_le t t (fun _ => hp) (fun h => by omega)
  · intro f p s hpt hm
    exact pk_le t p (fun h => by omega) (fun _ => hm)
  · intro f m p s hpt hO
    exact pk_lt (t - p) (t - p + 1) (fun _ => nm_r (nI_1 p) hO) (fun h => by omega) (pk_sub (by omega))
  · intro f m p k s hpt hk hI hn
    refine pk_lt (t - p) (k + 1) (fun h => by omega) (fun _ => rx_fs ht (by omega) (rf_b_if (fun h => ?_) (fun h => ?_))) (pk_sub (by omega))
    · exact nm_r (nI_1 s) (nm_r (nI_1 (k + 1)) (hn (s + 1) (by rw [hI, rf_rt h])))
    · exact nm_r (nI_1 (k + 1)) (hn s (by rw [hI, rf_rf h]))
theorem rx_lng26 {post J : Int32 → Prop} {a : Nat → Int32} {t r m l : Nat} (ht : t ≤ 24) (hm : m ≤ 24) (hl : l + 1 ≤ t) (hy : rf_Q a t m (l + 1) → post (nI (l + 1))) (hn : ¬ rf_Q a t m (l + 1) → J (nI l)) : ∀ d p : Nat, p + d = t - (l + 1) + 1 → (∀ q, q < p → ¬ m ≤ rf_ct a t (rf_wd a q (l + 1))) → wX_longest_26 post J (nI m) (nI (l + 1)) (nI t) (nI r) a (d + 1) (nI p) := by
  intro d
  induction d with
  | zero =>
    intro p hp hno
    refine pk_lt (t - (l + 1)) p (fun _ => nm_r (pk_m1 l) (hn ?_)) (fun h => by omega) (pk_sub (by omega))
    intro ⟨q, h1, h2⟩
    exact hno q (by omega) h2
  | succ d ih =>
    intro p hp hno
    refine pk_lt (t - (l + 1)) p (fun h => by omega) (fun _ => rx_cnt ht (by omega) ?_) (pk_sub (by omega))
    have hc := rf_ct_le a t (rf_wd a p (l + 1))
    refine pk_lt (rf_ct a t (rf_wd a p (l + 1))) m (fun h => nm_r (nI_1 p) (ih (p + 1) (by omega) (fun q hq => ?_))) (fun h => hy ⟨p, by omega, h⟩)
    by_cases z : q = p
    · subst z; omega
    · exact hno q (by omega)
theorem rx_lng19 {post : Int32 → Prop} {a : Nat → Int32} {t r m : Nat} (ht : t ≤ 24) (hm : m ≤ 24) (hp : ∀ x, rf_mx (rf_Q a t m) x → post (nI x)) : ∀ l : Nat, l ≤ t → (∀ n, l < n → ¬ rf_Q a t m n) → wX_longest_19 post (nI m) (nI t) (nI r) a (l + 1) (nI l) := by
  intro l
  induction l with
  | zero =>
    intro _ hno
    exact pk_lt 0 1 (fun _ => hp 0 ⟨Or.inl rfl, fun n hn hQ => absurd hQ (hno n hn)⟩) (fun h => by omega)
  | succ l ih =>
    intro hl hno
    refine pk_lt (l + 1) 1 (fun h => by omega) (fun _ => ⟨t - (l + 1) + 1 + 1, rx_lng26 ht hm hl (fun hQ => ?_) (fun hQ => ?_) (t - (l + 1) + 1) 0 (by omega) (fun q hq => by omega)⟩)
    · refine hp (l + 1) ⟨Or.inr ⟨by omega, hQ⟩, fun n hn hQn => ?_⟩
      by_cases z : l + 1 < n
      · exact absurd hQn (hno n z)
      · omega
    · refine ih (by omega) (fun n hn => ?_)
      by_cases z : n = l + 1
      · rw [z]; exact hQ
      · exact hno n (by omega)
theorem rf_Q_lt {a : Nat → Int32} {t m n : Nat} (h : t < n) : ¬ rf_Q a t m n := fun ⟨p, h1, _⟩ => by omega
theorem rx_lng {post : Int32 → Prop} {a : Nat → Int32} {t r m : Nat} (ht : t ≤ 24) (h1 : 1 ≤ m) (hm : m ≤ 24) (hp : ∀ x, rf_mx (rf_Q a t m) x → post (nI x)) : wpX_longest post (nI t, nI r, a) (nI m) :=
  pk_lt m 1 (fun h => by omega) (fun _ => pk_le m 24 (fun _ => ⟨t + 1, rx_lng19 ht hm hp t (Nat.le_refl t) (fun _ h => rf_Q_lt h)⟩) (fun h => by omega))
theorem rx_m34 {post : Int32 → Prop} {a : Nat → Int32} {t r p n c : Nat} (ht : t ≤ 24) (hc : c ≤ 24) (hpn : p + n ≤ t) (h1 : (t ≤ p + n ∨ rf_ct a t (rf_wd a p (n + 1)) < c) → post 1) (h0 : ¬ (t ≤ p + n ∨ rf_ct a t (rf_wd a p (n + 1)) < c) → post 0) : wX_isMaximalRepeat_34 post (nI p) (nI n) (nI c) (nI t) (nI r) a := by
  refine pk_le t (p + n) (fun h => h1 (Or.inl h)) (fun h => ?_) rfl (nI_add p n)
  rw [nI_1 n]
  refine rx_cnt ht (by omega) ?_
  have hc2 := rf_ct_le a t (rf_wd a p (n + 1))
  exact pk_le c (rf_ct a t (rf_wd a p (n + 1))) (fun g => h0 (by omega)) (fun g => h1 (Or.inr g))
theorem rx_max {post : Int32 → Prop} {a : Nat → Int32} {t r p n : Nat} (ht : t ≤ 24) (hpn : p + n ≤ t) (hp : post (rf_b (rf_xm a t (p, n)))) : wpX_isMaximalRepeat post (nI t, nI r, a) (nI p) (nI n) := by
  have e : rf_xm a t (p, n) = true ↔ (2 ≤ rf_ct a t (rf_wd a p n) ∧ ¬ (0 < p ∧ rf_ct a t (rf_wd a (p - 1) (n + 1)) = rf_ct a t (rf_wd a p n)) ∧ (t ≤ p + n ∨ rf_ct a t (rf_wd a p (n + 1)) < rf_ct a t (rf_wd a p n))) := by
    unfold rf_xm
    exact decide_eq_true_iff
  have y1 : rf_xm a t (p, n) = true → post 1 := fun h => by rw [rf_b_t h] at hp; exact hp
  have y0 : ¬ rf_xm a t (p, n) = true → post 0 := fun h => by rw [rf_b_f h] at hp; exact hp
  have hc := rf_ct_le a t (rf_wd a p n)
  refine rx_cnt ht (by omega) ?_
  refine pk_le 2 (rf_ct a t (rf_wd a p n)) (fun h2 => ?_) (fun h2 => y0 (fun z => by have := (e.mp z).1; omega))
  have last : ¬ (0 < p ∧ rf_ct a t (rf_wd a (p - 1) (n + 1)) = rf_ct a t (rf_wd a p n)) → wX_isMaximalRepeat_34 post (nI p) (nI n) (nI (rf_ct a t (rf_wd a p n))) (nI t) (nI r) a :=
    fun hl => rx_m34 ht (by omega) hpn (fun g => y1 (e.mpr ⟨h2, hl, g⟩)) (fun g => y0 (fun z => g (e.mp z).2.2))
  refine pk_le p 0 (fun h => last (fun z => by omega)) (fun h => ?_)
  obtain ⟨u, rfl⟩ : ∃ u, p = u + 1 := ⟨p - 1, by omega⟩
  rw [nI_pred u, nI_1 n]
  refine rx_cnt ht (by omega) ?_
  have hc2 := rf_ct_le a t (rf_wd a u (n + 1))
  exact pk_eq (rf_ct a t (rf_wd a u (n + 1))) (rf_ct a t (rf_wd a (u + 1) n)) (fun g => y0 (fun z => (e.mp z).2.1 ⟨h, g⟩)) (fun g => last (fun z => g z.2))
theorem rx_reps {post : Int32 → Prop} {a : Nat → Int32} {t r : Nat} (ht : t ≤ 24) (hp : post (nI (rf_kt (fun e => rf_fs a t e && rf_xm a t e) (rf_al t t)))) : wpX_repeats post (nI t, nI r, a) := by
  refine rf_nest0 (σ := Nat) t (fun V s => s = rf_kt (fun e => rf_fs a t e && rf_xm a t e) V) (fun f p s => wX_repeats_4 post (nI t) (nI r) a f (nI s) (nI p)) (fun f m p k s => wX_repeats_14 post (wX_repeats_4 post (nI t) (nI r) a f) (nI p) (nI t) (nI r) a m (nI s) (nI (k + 1))) 0 rfl ?_ ?_ ?_ ?_
  · intro f s hs
    subst hs
    exact pk_le t t (fun _ => hp) (fun h => by omega)
  · intro f p s hpt hm
    exact pk_le t p (fun h => by omega) (fun _ => hm)
  · intro f m p s hpt hO
    exact pk_lt (t - p) (t - p + 1) (fun _ => nm_r (nI_1 p) hO) (fun h => by omega) (pk_sub (by omega))
  · intro f m p k s hpt hk hI hn
    have no : ¬ (rf_fs a t (p, k + 1) && rf_xm a t (p, k + 1)) = true → s = rf_kt (fun e => rf_fs a t e && rf_xm a t e) (rf_al t p ++ rf_row p (k + 1)) := fun h => by rw [hI, rf_rf (f := fun e => rf_fs a t e && rf_xm a t e) h]
    refine pk_lt (t - p) (k + 1) (fun h => by omega) (fun _ => rx_fs ht (by omega) (rf_b_if (fun h => ?_) (fun h => ?_))) (pk_sub (by omega))
    · refine rx_max ht (by omega) (rf_b_if (fun g => ?_) (fun g => ?_))
      · exact nm_r (nI_1 s) (nm_r (nI_1 (k + 1)) (hn (s + 1) (by rw [hI, rf_rt (f := fun e => rf_fs a t e && rf_xm a t e) (Bool.and_eq_true_iff.mpr ⟨h, g⟩)])))
      · exact nm_r (nI_1 (k + 1)) (hn s (no (fun z => g (Bool.and_eq_true_iff.mp z).2)))
    · exact nm_r (nI_1 (k + 1)) (hn s (no (fun z => h (Bool.and_eq_true_iff.mp z).1)))
end
section
theorem rx_cb17 {post : Int32 → Prop} {a : Nat → Int32} {t r s n b m l : Nat} (hs : s + n ≤ 36) (hb : b + m ≤ 36) (hln : l ≤ n) (hlm : l ≤ m) (hl : l = n ∨ l = m) : ∀ d i : Nat, i + d = l → post (rf_b (rf_lx (rf_wd a (s + i) (n - i)) (rf_wd a (b + i) (m - i)))) → wX_comesBefore_17 post (nI s) (nI n) (nI b) (nI m) (nI l) (nI t) (nI r) a (d + 1) (nI i) := by
  intro d
  induction d with
  | zero =>
    intro i hi hp
    have hil : i = l := by omega
    subst hil
    refine pk_le i i (fun _ => pk_le m n (fun h => ?_) (fun h => ?_)) (fun h => by omega)
    · have e : m - i = 0 := by omega
      rw [e, rf_wd_0, rf_lx_r, rf_b_f (by decide)] at hp
      exact hp
    · have e : n - i = 0 := by omega
      have e2 : m - i = (m - i - 1) + 1 := by omega
      rw [e, rf_wd_0, e2, rf_wd_s, rf_lx_l, rf_b_t rfl] at hp
      exact hp
  | succ d ih =>
    intro i hi hp
    have e1 : n - i = (n - (i + 1)) + 1 := by omega
    have e2 : m - i = (m - (i + 1)) + 1 := by omega
    rw [e1, e2, rf_wd_s, rf_wd_s] at hp
    refine pk_le l i (fun h => by omega) (fun _ => ⟨pk_in (s + i) 36 (by omega) (nI_add s i), pk_in (b + i) 36 (by omega) (nI_add b i), ?_⟩)
    rw [pk_cl (s + i) (nI_add s i), pk_cl (b + i) (nI_add b i)]
    by_cases hab : a (s + i) = a (b + i)
    · rw [rf_lx_e hab] at hp
      exact br_t hab (nm_r (nI_1 i) (ih (i + 1) (by omega) hp))
    · rw [rf_lx_n hab] at hp
      refine br_f hab ⟨pk_in (s + i) 36 (by omega) (nI_add s i), pk_in (b + i) 36 (by omega) (nI_add b i), ?_⟩
      by_cases g : a (s + i) < a (b + i)
      · rw [rf_b_t (decide_eq_true_iff.mpr g)] at hp
        exact br_f (fun z => Int32.not_lt.mpr z g) hp
      · rw [rf_b_f (fun z => g (decide_eq_true_iff.mp z))] at hp
        exact br_t (Int32.not_lt.mp g) hp
theorem rx_cb {post : Int32 → Prop} {a : Nat → Int32} {t r s n b m : Nat} (hs : s + n ≤ 36) (hb : b + m ≤ 36) (hp : post (rf_b (rf_lx (rf_wd a s n) (rf_wd a b m)))) : wpX_comesBefore post (nI t, nI r, a) (nI s) (nI n) (nI b) (nI m) :=
  pk_le m n (fun h => ⟨m + 1, rx_cb17 hs hb h (Nat.le_refl m) (Or.inr rfl) m 0 (by omega) hp⟩) (fun h => ⟨n + 1, rx_cb17 hs hb (Nat.le_refl n) (Nat.le_of_lt h) (Or.inl rfl) n 0 (by omega) hp⟩)
/-- the code of a pair -/
def rf_cd (e : Nat × Nat) : Nat := 25 * e.1 + e.2
theorem rf_bs_bd {a : Nat → Int32} {c : List Int32} {t : Nat} {V : List (Nat × Nat)} (h : ∀ e, e ∈ V → 1 ≤ e.2 ∧ e.1 + e.2 ≤ t) : (rf_bs a c V).1 + (rf_bs a c V).2 ≤ t := by
  have k := (rf_K_bs (a := a) (c := c) (V := V) (fun e he => (h e he).1)).1
  rcases k with k | k
  · rw [k]; exact Nat.zero_le t
  · exact (h _ k.1).2
theorem rf_V_bd {t p k : Nat} (hp : p < t) (hk : k ≤ t - p) : ∀ e, e ∈ rf_al t p ++ rf_row p k → 1 ≤ e.2 ∧ e.1 + e.2 ≤ t := by
  intro e he
  rw [List.mem_append, rf_al_mem, rf_row_mem] at he
  omega
theorem rf_al_bd {t : Nat} : ∀ e, e ∈ rf_al t t → 1 ≤ e.2 ∧ e.1 + e.2 ≤ t := by
  intro e he
  rw [rf_al_mem] at he
  omega
theorem rf_L_bd {a : Nat → Int32} {t : Nat} : ∀ e, e ∈ rf_L a t → 1 ≤ e.2 ∧ e.1 + e.2 ≤ t := by
  intro e he
  rw [rf_L_mem] at he
  omega
theorem rf_st_t {a : Nat → Int32} {c : List Int32} {b e : Nat × Nat} (h1 : rf_lx c (rf_wd a e.1 e.2) = true) (h2 : b.2 = 0 ∨ rf_lx (rf_wd a e.1 e.2) (rf_wd a b.1 b.2) = true) : rf_st a c b e = e := if_pos ⟨h1, h2⟩
theorem rf_st_f1 {a : Nat → Int32} {c : List Int32} {b e : Nat × Nat} (h1 : ¬ rf_lx c (rf_wd a e.1 e.2) = true) : rf_st a c b e = b := if_neg (fun z => h1 z.1)
theorem rf_st_f2 {a : Nat → Int32} {c : List Int32} {b e : Nat × Nat} (h2 : ¬ b.2 = 0) (h3 : ¬ rf_lx (rf_wd a e.1 e.2) (rf_wd a b.1 b.2) = true) : rf_st a c b e = b := if_neg (fun z => z.2.elim h2 h3)
theorem rf_bs_row (a : Nat → Int32) (c : List Int32) (t p k : Nat) : rf_bs a c (rf_al t p ++ rf_row p (k + 1)) = rf_st a c (rf_bs a c (rf_al t p ++ rf_row p k)) (p, k + 1) := by
  rw [rf_row_s, ← List.append_assoc, rf_bs_app]
theorem rx_wa {post : Int32 → Prop} {a : Nat → Int32} {t r s n : Nat} (ht : t ≤ 24) (hs : s + n ≤ 36) (hp : post (nI (rf_cd (rf_bs a (rf_wd a s n) (rf_al t t))))) : wpX_wordAfter post (nI t, nI r, a) (nI s) (nI n) := by
  refine rf_nest0 (σ := Nat × Nat) t (fun V b => b = rf_bs a (rf_wd a s n) V) (fun f p b => wX_wordAfter_8 post (nI s) (nI n) (nI t) (nI r) a f (nI b.1) (nI b.2) (nI p)) (fun f m p k b => wX_wordAfter_20 post (wX_wordAfter_8 post (nI s) (nI n) (nI t) (nI r) a f) (nI s) (nI n) (nI p) (nI t) (nI r) a m (nI b.1) (nI b.2) (nI (k + 1))) (0, 0) rfl ?_ ?_ ?_ ?_
  · intro f b hb
    subst hb
    refine pk_le t t (fun _ => ?_) (fun h => by omega)
    show post (nI 25 * nI _ + nI _)
    rw [pk_mul, nI_add]
    exact hp
  · intro f p b hpt hm
    exact pk_le t p (fun h => by omega) (fun _ => hm)
  · intro f m p b hpt hO
    exact pk_lt (t - p) (t - p + 1) (fun _ => nm_r (nI_1 p) hO) (fun h => by omega) (pk_sub (by omega))
  · intro f m p k b hpt hk hI hn
    have hbd : b.1 + b.2 ≤ t := by
      rw [hI]; exact rf_bs_bd (rf_V_bd hpt (by omega))
    refine pk_lt (t - p) (k + 1) (fun h => by omega) (fun _ => rx_cb hs (by omega) (rf_b_if (fun h => ?_) (fun h => ?_))) (pk_sub (by omega))
    · refine pk_eq b.2 0 (fun h0 => ?_) (fun h0 => ?_)
      · exact nm_r (nI_1 (k + 1)) (hn (p, k + 1) (by rw [rf_bs_row, ← hI, rf_st_t h (Or.inl h0)]))
      · refine rx_cb (by omega) (by omega) (rf_b_if (fun g => ?_) (fun g => ?_))
        · exact nm_r (nI_1 (k + 1)) (hn (p, k + 1) (by rw [rf_bs_row, ← hI, rf_st_t h (Or.inr g)]))
        · exact nm_r (nI_1 (k + 1)) (hn b (by rw [rf_bs_row, ← hI, rf_st_f2 h0 g]))
    · exact nm_r (nI_1 (k + 1)) (hn b (by rw [rf_bs_row, ← hI, rf_st_f1 h]))
theorem rf_it_bd {a : Nat → Int32} {t : Nat} (i : Nat) : (rf_it a t i).1 + (rf_it a t i).2 ≤ t := by
  cases i with
  | zero => exact Nat.zero_le t
  | succ i => rw [rf_it_s]; exact rf_bs_bd rf_L_bd
theorem rx_w19 {post : Int32 → Prop} {a : Nat → Int32} {t r k : Nat} (ht : t ≤ 24) (hk : k < 300) (hp : post (nI (rf_cd (rf_it a t (k + 1))))) : ∀ d i : Nat, i + d = k + 1 → wX_word_19 post (nI k) (nI t) (nI r) a (d + 1) (nI (rf_cd (rf_it a t i))) (nI i) := by
  intro d
  induction d with
  | zero =>
    intro i hi
    have : i = k + 1 := by omega
    subst this
    exact pk_lt k (k + 1) (fun _ => hp) (fun h => by omega)
  | succ d ih =>
    intro i hi
    have hb := rf_it_bd (a := a) (t := t) i
    have h1 : nI (rf_cd (rf_it a t i)) / 25 = nI (rf_it a t i).1 := by
      have := pk_div (a := rf_cd (rf_it a t i)) (d := 25) (by unfold rf_cd; omega) (by omega) (by omega)
      rw [show rf_cd (rf_it a t i) / 25 = (rf_it a t i).1 by unfold rf_cd; omega] at this
      exact this
    have h2 : nI (rf_cd (rf_it a t i)) - nI (rf_cd (rf_it a t i)) / 25 * 25 = nI (rf_it a t i).2 := by
      have := pk_rem (a := rf_cd (rf_it a t i)) (d := 25) (by unfold rf_cd; omega) (by omega) (by omega)
      rw [show rf_cd (rf_it a t i) % 25 = (rf_it a t i).2 by unfold rf_cd; omega] at this
      exact this
    refine pk_lt k i (fun h => by omega) (fun _ => ⟨by decide, by decide, ?_⟩)
    rw [h2, h1]
    refine rx_wa ht (by omega) ?_
    have := ih (i + 1) (by omega)
    rw [rf_it_s, ← rf_bs_same ht] at this
    exact nm_r (nI_1 i) this
theorem rx_word {post : Int32 → Prop} {a : Nat → Int32} {t r k : Nat} (ht : t ≤ 24) (hk : k < 2 ^ 31) (h1 : k < (rf_L a t).length → post (nI (rf_cd (rf_it a t (k + 1))))) (h0 : (rf_L a t).length ≤ k → post (-3)) : wpX_word post (nI t, nI r, a) (nI k) := by
  refine br_f (nI_pos hk) (rx_words ht ?_)
  have hL := rf_L_300 (a := a) ht
  exact pk_lt k (rf_L a t).length (fun h => ⟨k + 1 + 1, rx_w19 ht (by omega) (h1 h) (k + 1) 0 (by omega)⟩) h0
theorem rx_rank {post : Int32 → Prop} {a : Nat → Int32} {t r : Nat} (ht : t ≤ 24) (hr : r ≤ 12) (h0 : r = 0 → post (-3)) (h1 : r ≠ 0 → post (nI (rf_kt (fun e => rf_lx (rf_wd a e.1 e.2) (rf_wd a 24 r) && rf_fs a t e) (rf_al t t)))) : wpX_rank post (nI t, nI r, a) := by
  refine pk_eq r 0 h0 (fun hne => ?_)
  have hp := h1 hne
  refine rf_nest0 (σ := Nat) t (fun V s => s = rf_kt (fun e => rf_lx (rf_wd a e.1 e.2) (rf_wd a 24 r) && rf_fs a t e) V) (fun f p s => wX_rank_14 post (nI t) (nI r) a f (nI s) (nI p)) (fun f m p k s => wX_rank_24 post (wX_rank_14 post (nI t) (nI r) a f) (nI p) (nI t) (nI r) a m (nI s) (nI (k + 1))) 0 rfl ?_ ?_ ?_ ?_
  · intro f s hs
    subst hs
    exact pk_le t t (fun _ => hp) (fun h => by omega)
  · intro f p s hpt hm
    exact pk_le t p (fun h => by omega) (fun _ => hm)
  · intro f m p s hpt hO
    exact pk_lt (t - p) (t - p + 1) (fun _ => nm_r (nI_1 p) hO) (fun h => by omega) (pk_sub (by omega))
  · intro f m p k s hpt hk hI hn
    have no : ¬ (rf_lx (rf_wd a p (k + 1)) (rf_wd a 24 r) && rf_fs a t (p, k + 1)) = true → s = rf_kt (fun e => rf_lx (rf_wd a e.1 e.2) (rf_wd a 24 r) && rf_fs a t e) (rf_al t p ++ rf_row p (k + 1)) := fun h => by rw [hI, rf_rf (f := fun e => rf_lx (rf_wd a e.1 e.2) (rf_wd a 24 r) && rf_fs a t e) h]
    refine pk_lt (t - p) (k + 1) (fun h => by omega) (fun _ => rx_cb (s := p) (n := k + 1) (b := 24) (m := r) (by omega) (by omega) (rf_b_if (fun h => ?_) (fun h => ?_))) (pk_sub (by omega))
    · refine rx_fs ht (by omega) (rf_b_if (fun g => ?_) (fun g => ?_))
      · exact nm_r (nI_1 s) (nm_r (nI_1 (k + 1)) (hn (s + 1) (by rw [hI, rf_rt (f := fun e => rf_lx (rf_wd a e.1 e.2) (rf_wd a 24 r) && rf_fs a t e) (Bool.and_eq_true_iff.mpr ⟨h, g⟩)])))
      · exact nm_r (nI_1 (k + 1)) (hn s (no (fun z => g (Bool.and_eq_true_iff.mp z).2)))
    · exact nm_r (nI_1 (k + 1)) (hn s (no (fun z => h (Bool.and_eq_true_iff.mp z).1)))
theorem rx_com12 {post J : Int32 → Prop} {a : Nat → Int32} {t r l : Nat} (ht : t ≤ 24) (hr : r ≤ 12) (hl : l + 1 ≤ r) (hy : rf_C a t r (l + 1) → post (nI (l + 1))) (hn : ¬ rf_C a t r (l + 1) → J (nI l)) : ∀ d p : Nat, p + d = r - (l + 1) + 1 → (∀ q, q < p → ¬ 0 < rf_ct a t (rf_wd a (24 + q) (l + 1))) → wX_common_12 post J (nI (l + 1)) (nI t) (nI r) a (d + 1) (nI p) := by
  intro d
  induction d with
  | zero =>
    intro p hp hno
    refine pk_lt (r - (l + 1)) p (fun _ => nm_r (pk_m1 l) (hn ?_)) (fun h => by omega) (pk_sub (by omega))
    intro ⟨q, h1, h2⟩
    exact hno q (by omega) h2
  | succ d ih =>
    intro p hp hno
    refine pk_lt (r - (l + 1)) p (fun h => by omega) (fun _ => ?_) (pk_sub (by omega))
    rw [show (24 : Int32) + nI p = nI (24 + p) from nI_add 24 p]
    refine rx_fp ht (by omega) ?_
    by_cases g : rf_fp a t (rf_wd a (24 + p) (l + 1)) = -3
    · refine br_t g (nm_r (nI_1 p) (ih (p + 1) (by omega) (fun q hq => ?_)))
      by_cases z : q = p
      · subst z; exact fun y => rf_fp_ct ht |>.mpr y g
      · exact hno q (by omega)
    · exact br_f g (hy ⟨p, by omega, (rf_fp_ct ht).mp g⟩)
theorem rx_com5 {post : Int32 → Prop} {a : Nat → Int32} {t r : Nat} (ht : t ≤ 24) (hr : r ≤ 12) (hp : ∀ x, rf_mx (rf_C a t r) x → post (nI x)) : ∀ l : Nat, l ≤ r → (∀ n, l < n → ¬ rf_C a t r n) → wX_common_5 post (nI t) (nI r) a (l + 1) (nI l) := by
  intro l
  induction l with
  | zero =>
    intro _ hno
    exact pk_lt 0 1 (fun _ => hp 0 ⟨Or.inl rfl, fun n hn hQ => absurd hQ (hno n hn)⟩) (fun h => by omega)
  | succ l ih =>
    intro hl hno
    refine pk_lt (l + 1) 1 (fun h => by omega) (fun _ => ⟨r - (l + 1) + 1 + 1, rx_com12 ht hr hl (fun hQ => ?_) (fun hQ => ?_) (r - (l + 1) + 1) 0 (by omega) (fun q hq => by omega)⟩)
    · refine hp (l + 1) ⟨Or.inr ⟨by omega, hQ⟩, fun n hn hQn => ?_⟩
      by_cases z : l + 1 < n
      · exact absurd hQn (hno n z)
      · omega
    · refine ih (by omega) (fun n hn => ?_)
      by_cases z : n = l + 1
      · rw [z]; exact hQ
      · exact hno n (by omega)
theorem rf_C_lt {a : Nat → Int32} {t r n : Nat} (h : r < n) : ¬ rf_C a t r n := fun ⟨p, h1, _⟩ => by omega
theorem rx_com {post : Int32 → Prop} {a : Nat → Int32} {t r : Nat} (ht : t ≤ 24) (hr : r ≤ 12) (hp : ∀ x, rf_mx (rf_C a t r) x → post (nI x)) : wpX_common post (nI t, nI r, a) :=
  ⟨r + 1, rx_com5 ht hr hp r (Nat.le_refl r) (fun _ h => rf_C_lt h)⟩
/-- the word of length n at p stands once -/
def rf_u1 (a : Nat → Int32) (t p n : Nat) : Bool := decide (rf_ct a t (rf_wd a p n) = 1)
theorem rf_u1_iff {a : Nat → Int32} {t p n : Nat} : rf_u1 a t p n = true ↔ rf_ct a t (rf_wd a p n) = 1 := by
  unfold rf_u1
  exact decide_eq_true_iff
theorem rx_un17 {post : Int32 → Prop} {a : Nat → Int32} {t r p : Nat} (ht : t ≤ 24) (hpt : p < t) : ∀ d n : Nat, n + d = t - p + 1 → post (rf_fd (rf_u1 a t p) n d) → wX_unique_17 post (nI p) (nI t) (nI r) a (d + 1) (nI n) := by
  intro d
  induction d with
  | zero =>
    intro n hn hp
    exact pk_lt (t - p) n (fun _ => hp) (fun h => by omega) (pk_sub (by omega))
  | succ d ih =>
    intro n hn hp
    have hc := rf_ct_le a t (rf_wd a p n)
    refine pk_lt (t - p) n (fun h => by omega) (fun _ => rx_cnt ht (by omega) ?_) (pk_sub (by omega))
    refine pk_eq (rf_ct a t (rf_wd a p n)) 1 (fun h => ?_) (fun h => ?_)
    · rw [rf_fd_t (rf_u1_iff.mpr h)] at hp
      exact hp
    · rw [rf_fd_f (fun z => h (rf_u1_iff.mp z))] at hp
      exact nm_r (nI_1 n) (ih (n + 1) (by omega) hp)
end
section
theorem ry_same3 {post : Int32 → Prop} {a lp ll : Nat → Int32} {c kn : Int32} {t r q s n : Nat} (hq : q + n ≤ 36) (hs : s + n ≤ 36) : ∀ d i : Nat, i + d = n → (rf_wd a (s + i) d = rf_wd a (q + i) d → post 1) → (¬ rf_wd a (s + i) d = rf_wd a (q + i) d → post 0) → wY_same_3 post (nI s) (nI q) (nI n) (nI t) (nI r) c kn a lp ll (d + 1) (nI i) := by
  intro d
  induction d with
  | zero =>
    intro i hi h1 h0
    exact pk_le n i (fun _ => h1 rfl) (fun h => by omega)
  | succ d ih =>
    intro i hi h1 h0
    refine pk_le n i (fun h => by omega) (fun _ => ⟨pk_in (s + i) 36 (by omega) (nI_add s i), pk_in (q + i) 36 (by omega) (nI_add q i), ?_⟩)
    rw [pk_cl (s + i) (nI_add s i), pk_cl (q + i) (nI_add q i)]
    by_cases hab : a (s + i) = a (q + i)
    · refine br_t hab (nm_r (nI_1 i) (ih (i + 1) (by omega) (fun e => h1 ?_) (fun ne => h0 (fun e => ne ?_))))
      · show a (s + i) :: rf_wd a (s + (i + 1)) d = a (q + i) :: rf_wd a (q + (i + 1)) d
        rw [hab, e]
      · exact (List.cons.inj (show a (s + i) :: rf_wd a (s + (i + 1)) d = a (q + i) :: rf_wd a (q + (i + 1)) d from e)).2
    · refine br_f hab (h0 (fun e => hab ?_))
      exact (List.cons.inj (show a (s + i) :: rf_wd a (s + (i + 1)) d = a (q + i) :: rf_wd a (q + (i + 1)) d from e)).1
theorem ry_same {post : Int32 → Prop} {a lp ll : Nat → Int32} {c kn : Int32} {t r q s n : Nat} (ht : t ≤ 24) (hq : q + n ≤ t) (hs : s + n ≤ 36) (hp : post (rf_b (rf_oc a t (rf_wd a s n) q))) : wpY_same post (nI t, nI r, c, kn, a, lp, ll) (nI s) (nI q) (nI n) := by
  refine ⟨n + 1, ry_same3 (by omega) hs n 0 (by omega) (fun e => ?_) (fun ne => ?_)⟩
  · rw [rf_b_t ((rf_oc_wd (a := a) (t := t) (s := s) (n := n) (q := q)).mpr ⟨by omega, e.symm⟩)] at hp
    exact hp
  · rw [rf_b_f (fun z => ne ((rf_oc_wd (a := a) (t := t) (s := s) (n := n) (q := q)).mp z).2.symm)] at hp
    exact hp
theorem rf_oc_no {a : Nat → Int32} {t s n q : Nat} (h : t < q + n) : ¬ rf_oc a t (rf_wd a s n) q = true := fun z => by
  have := (rf_oc_wd.mp z).1
  omega
theorem ry_cnt5 {post : Int32 → Prop} {a lp ll : Nat → Int32} {c kn : Int32} {t r s n : Nat} (ht : t ≤ 24) (hn : 1 ≤ n) (hs : s + n ≤ 36) (hp : post (nI (rf_ct a t (rf_wd a s n)))) : ∀ d q : Nat, q + d = t → wY_countOf_5 post (nI s) (nI n) (nI t) (nI r) c kn a lp ll (d + 1) (nI (rf_cn (rf_oc a t (rf_wd a s n)) q)) (nI q) := by
  have fin : ∀ q, q ≤ t → t < q + n → post (nI (rf_cn (rf_oc a t (rf_wd a s n)) q)) := by
    intro q hq hf
    have : rf_ct a t (rf_wd a s n) = rf_cn (rf_oc a t (rf_wd a s n)) q := rf_cn_up t hq (fun j h1 h2 => rf_oc_no (by omega))
    rw [← this]
    exact hp
  intro d
  induction d with
  | zero =>
    intro q hq
    exact pk_lt t (q + n) (fun h => fin q (by omega) h) (fun h => by omega) rfl (nI_add q n)
  | succ d ih =>
    intro q hq
    refine pk_lt t (q + n) (fun h => fin q (by omega) h) (fun h0 => ry_same ht h0 hs (rf_b_if (fun h => ?_) (fun h => ?_))) rfl (nI_add q n)
    · have := ih (q + 1) (by omega)
      rw [rf_cn_t h] at this
      exact nm_r (nI_1 _) (nm_r (nI_1 q) this)
    · have := ih (q + 1) (by omega)
      rw [rf_cn_f h] at this
      exact nm_r (nI_1 q) this
theorem ry_cnt {post : Int32 → Prop} {a lp ll : Nat → Int32} {c kn : Int32} {t r s n : Nat} (ht : t ≤ 24) (hn : 1 ≤ n) (hs : s + n ≤ 36) (hp : post (nI (rf_ct a t (rf_wd a s n)))) : wpY_countOf post (nI t, nI r, c, kn, a, lp, ll) (nI s) (nI n) :=
  ⟨t + 1, ry_cnt5 ht hn hs hp t 0 (by omega)⟩
theorem ry_fp2 {post : Int32 → Prop} {a lp ll : Nat → Int32} {c kn : Int32} {t r s n : Nat} (ht : t ≤ 24) (hn : 1 ≤ n) (hs : s + n ≤ 36) : ∀ d q : Nat, q + d = t → post (rf_fd (rf_oc a t (rf_wd a s n)) q d) → wY_firstOf_2 post (nI s) (nI n) (nI t) (nI r) c kn a lp ll (d + 1) (nI q) := by
  intro d
  induction d with
  | zero =>
    intro q hq hp
    exact pk_lt t (q + n) (fun _ => hp) (fun h => by omega) rfl (nI_add q n)
  | succ d ih =>
    intro q hq hp
    refine pk_lt t (q + n) (fun h => ?_) (fun h0 => ry_same ht h0 hs (rf_b_if (fun h => ?_) (fun h => ?_))) rfl (nI_add q n)
    · rw [rf_fd_n (fun j h1 h2 => rf_oc_no (by omega))] at hp
      exact hp
    · rw [rf_fd_t h] at hp
      exact hp
    · rw [rf_fd_f h] at hp
      exact nm_r (nI_1 q) (ih (q + 1) (by omega) hp)
theorem ry_fp {post : Int32 → Prop} {a lp ll : Nat → Int32} {c kn : Int32} {t r s n : Nat} (ht : t ≤ 24) (hn : 1 ≤ n) (hs : s + n ≤ 36) (hp : post (rf_fp a t (rf_wd a s n))) : wpY_firstOf post (nI t, nI r, c, kn, a, lp, ll) (nI s) (nI n) :=
  ⟨t + 1, ry_fp2 ht hn hs t 0 (by omega) hp⟩
theorem rf_ft {f : Nat × Nat → Bool} {t p k : Nat} (h : f (p, k + 1) = true) : (rf_al t p ++ rf_row p (k + 1)).filter f = (rf_al t p ++ rf_row p k).filter f ++ [(p, k + 1)] := by
  rw [rf_row_s, ← List.append_assoc, List.filter_append, List.filter_cons_of_pos h, List.filter_nil]
theorem rf_ff {f : Nat × Nat → Bool} {t p k : Nat} (h : ¬ f (p, k + 1) = true) : (rf_al t p ++ rf_row p (k + 1)).filter f = (rf_al t p ++ rf_row p k).filter f := by
  rw [rf_row_s, ← List.append_assoc, List.filter_append, List.filter_cons_of_neg h, List.filter_nil, List.append_nil]
/-- what the reference knows of its list -/
def rf_kn (a : Nat → Int32) (t : Nat) (c kn : Int32) (lp ll : Nat → Int32) : Prop := kn = 0 ∨ (kn = 1 ∧ c = nI (rf_L a t).length ∧ rf_H lp ll (rf_L a t))
theorem ry_list20 {post : SY → Prop} {a lp ll : Nat → Int32} {t r : Nat} (ht : t ≤ 24) (hp : ∀ lp ll, rf_H lp ll (rf_L a t) → post (nI t, nI r, nI (rf_L a t).length, 1, a, lp, ll)) : ∃ f, wY_list_20 post (nI t) (nI r) 1 f 0 0 a lp ll := by
  refine rf_nest0 (σ := Nat × (Nat → Int32) × (Nat → Int32)) t (fun V s => s.1 = (V.filter (rf_fs a t)).length ∧ rf_H s.2.1 s.2.2 (V.filter (rf_fs a t))) (fun f p s => wY_list_20 post (nI t) (nI r) 1 f (nI p) (nI s.1) a s.2.1 s.2.2) (fun f m p k s => wY_list_30 post (wY_list_20 post (nI t) (nI r) 1 f) (nI p) (nI t) (nI r) 1 m (nI (k + 1)) (nI s.1) a s.2.1 s.2.2) (0, lp, ll) ⟨rfl, rf_H_0⟩ ?_ ?_ ?_ ?_
  · intro f s hs
    refine pk_le t t (fun _ => ?_) (fun h => by omega)
    have := hp s.2.1 s.2.2 hs.2
    rw [hs.1]
    exact this
  · intro f p s hpt hm
    exact pk_le t p (fun h => by omega) (fun _ => hm)
  · intro f m p s hpt hO
    exact pk_lt t (p + (t - p + 1)) (fun _ => nm_r (nI_1 p) hO) (fun h => by omega) rfl (nI_add p (t - p + 1))
  · intro f m p k s hpt hk hI hn
    obtain ⟨hI1, hI2⟩ := hI
    have room := rf_al_room (p := p) (n := k) ht hpt hk
    have room2 := List.length_filter_le (rf_fs a t) (rf_al t p ++ rf_row p k)
    have hs : s.1 < 300 := by omega
    refine pk_lt t (p + (k + 1)) (fun h => by omega) (fun _ => ry_fp ht (by omega) (by omega) ?_) rfl (nI_add p (k + 1))
    by_cases h : rf_fp a t (rf_wd a p (k + 1)) = nI p
    · have hf : rf_fs a t (p, k + 1) = true := rf_fs_iff.mpr h
      refine br_t h ⟨pk_in s.1 300 hs, nm_r (congrArg (fun i => upd s.2.1 i (nI p)) (pk_cl s.1)) ⟨pk_in s.1 300 hs, nm_r (congrArg (fun i => upd s.2.2 i (nI (k + 1))) (pk_cl s.1)) (nm_r (nI_1 s.1) (nm_r (nI_1 (k + 1)) ?_))⟩⟩
      refine hn (s.1 + 1, upd s.2.1 s.1 (nI p), upd s.2.2 s.1 (nI (k + 1))) ⟨?_, ?_⟩
      · rw [rf_ft hf, rf_len1, ← hI1]
      · rw [rf_ft hf, hI1]
        exact rf_H_s hI2
    · have hf : ¬ rf_fs a t (p, k + 1) = true := fun z => h (rf_fs_iff.mp z)
      refine br_f h (nm_r (nI_1 (k + 1)) (hn s ⟨?_, ?_⟩))
      · rw [rf_ff hf]; exact hI1
      · rw [rf_ff hf]; exact hI2
theorem ry_list {post : SY → Prop} {a lp ll : Nat → Int32} {c kn : Int32} {t r : Nat} (ht : t ≤ 24) (hk : rf_kn a t c kn lp ll) (hp : ∀ lp ll, rf_H lp ll (rf_L a t) → post (nI t, nI r, nI (rf_L a t).length, 1, a, lp, ll)) : wpY_list post (nI t, nI r, c, kn, a, lp, ll) := by
  rcases hk with hk | ⟨h1, h2, h3⟩
  · subst hk
    exact br_t rfl (ry_list20 ht hp)
  · subst h1 h2
    exact br_f (by decide) (hp lp ll h3)
theorem ry_words {post : Int32 → SY → Prop} {a lp ll : Nat → Int32} {c kn : Int32} {t r : Nat} (ht : t ≤ 24) (hk : rf_kn a t c kn lp ll) (hp : ∀ lp ll, rf_H lp ll (rf_L a t) → post (nI (rf_L a t).length) (nI t, nI r, nI (rf_L a t).length, 1, a, lp, ll)) : wpY_words post (nI t, nI r, c, kn, a, lp, ll) := by
  unfold wpY_words
  dsimp only
  exact ry_list ht hk hp
/-- the walk over the list: what stands at each place -/
theorem rf_Lat {a lp ll : Nat → Int32} {t : Nat} {V1 V2 : List (Nat × Nat)} {e : Nat × Nat} (ht : t ≤ 24) (hH : rf_H lp ll (rf_L a t)) (hL : rf_L a t = V1 ++ e :: V2) : lp V1.length = nI e.1 ∧ ll V1.length = nI e.2 ∧ (1 ≤ e.2 ∧ e.1 + e.2 ≤ t) ∧ V1.length < (rf_L a t).length ∧ (rf_L a t).length ≤ 300 := by
  have h := rf_H_at (hL ▸ hH)
  have hm : e ∈ rf_L a t := by rw [hL]; exact List.mem_append.mpr (Or.inr List.mem_cons_self)
  refine ⟨h.1, h.2, rf_L_bd e hm, ?_, rf_L_300 ht⟩
  rw [hL, List.length_append, List.length_cons]
  omega
theorem rf_QL_s {a : Nat → Int32} {t m n : Nat} {V : List (Nat × Nat)} {e : Nat × Nat} : rf_QL a t m (V ++ [e]) n ↔ rf_QL a t m V n ∨ (e.2 = n ∧ m ≤ rf_ct a t (rf_wd a e.1 e.2)) := by
  constructor
  · intro ⟨f, hf, h1, h2⟩
    rcases List.mem_append.mp hf with hf | hf
    · exact Or.inl ⟨f, hf, h1, h2⟩
    · rw [List.mem_singleton] at hf
      subst hf
      exact Or.inr ⟨h1, h2⟩
  · intro h
    rcases h with ⟨f, hf, h1, h2⟩ | ⟨h1, h2⟩
    · exact ⟨f, List.mem_append.mpr (Or.inl hf), h1, h2⟩
    · exact ⟨e, List.mem_append.mpr (Or.inr (List.mem_singleton.mpr rfl)), h1, h2⟩
theorem rf_mxQ_keep {a : Nat → Int32} {t m x : Nat} {V : List (Nat × Nat)} {e : Nat × Nat} (h : rf_mx (rf_QL a t m V) x) (he : e.2 ≤ x ∨ ¬ m ≤ rf_ct a t (rf_wd a e.1 e.2)) : rf_mx (rf_QL a t m (V ++ [e])) x := by
  obtain ⟨h1, h2⟩ := h
  refine ⟨?_, fun n hn hQ => ?_⟩
  · rcases h1 with z | z
    · exact Or.inl z
    · exact Or.inr ⟨z.1, rf_QL_s.mpr (Or.inl z.2)⟩
  · rcases rf_QL_s.mp hQ with z | z
    · exact h2 n hn z
    · rcases he with y | y
      · omega
      · exact absurd z.2 y
theorem rf_mxQ_put {a : Nat → Int32} {t m x : Nat} {V : List (Nat × Nat)} {e : Nat × Nat} (h : rf_mx (rf_QL a t m V) x) (h1 : x < e.2) (h2 : m ≤ rf_ct a t (rf_wd a e.1 e.2)) : rf_mx (rf_QL a t m (V ++ [e])) e.2 := by
  refine ⟨Or.inr ⟨by omega, rf_QL_s.mpr (Or.inr ⟨rfl, h2⟩)⟩, fun n hn hQ => ?_⟩
  rcases rf_QL_s.mp hQ with z | z
  · have := h.2 n hn z
    omega
  · omega
theorem ry_lng22 {post : Int32 → SY → Prop} {a lp ll : Nat → Int32} {kn : Int32} {t r m : Nat} (ht : t ≤ 24) (hm : m ≤ 24) (hH : rf_H lp ll (rf_L a t)) (hp : ∀ x, rf_mx (rf_QL a t m (rf_L a t)) x → post (nI x) (nI t, nI r, nI (rf_L a t).length, kn, a, lp, ll)) : ∀ (V2 V1 : List (Nat × Nat)) (x : Nat), rf_L a t = V1 ++ V2 → x ≤ 24 → rf_mx (rf_QL a t m V1) x → wY_longest_22 post (nI m) (nI t) (nI r) (nI (rf_L a t).length) kn a lp ll (V2.length + 1) (nI x) (nI V1.length) := by
  intro V2
  induction V2 with
  | nil =>
    intro V1 x hL hx hQ
    rw [List.append_nil] at hL
    have h3 := rf_L_300 (a := a) ht
    have hlen : V1.length = (rf_L a t).length := by rw [hL]
    refine pk_le (rf_L a t).length V1.length (fun _ => hp x ?_) (fun h => by omega)
    rw [hL]; exact hQ
  | cons e V2 ih =>
    intro V1 x hL hx hQ
    obtain ⟨l1, l2, l3, l4, l5⟩ := rf_Lat ht hH hL
    have hL2 : rf_L a t = (V1 ++ [e]) ++ V2 := by rw [hL, rf_mid]
    have nxt : ∀ y, y ≤ 24 → rf_mx (rf_QL a t m (V1 ++ [e])) y → wY_longest_22 post (nI m) (nI t) (nI r) (nI (rf_L a t).length) kn a lp ll (V2.length + 1) (nI y) (nI (V1.length + 1)) := by
      intro y hy hQ2
      have := ih (V1 ++ [e]) y hL2 hy hQ2
      rw [rf_len1] at this
      exact this
    have hi : vp_in (nI V1.length) 300 := pk_in V1.length 300 (by omega)
    have hc := rf_ct_le a t (rf_wd a e.1 e.2)
    refine pk_le (rf_L a t).length V1.length (fun h => by omega) (fun _ => ⟨hi, ?_⟩)
    rw [pk_cl V1.length, l1, l2]
    refine pk_le e.2 x (fun h => nm_r (nI_1 V1.length) (nxt x hx (rf_mxQ_keep hQ (Or.inl h)))) (fun h => ⟨hi, hi, ry_cnt ht l3.1 (by omega) ?_⟩)
    refine pk_lt (rf_ct a t (rf_wd a e.1 e.2)) m (fun g => nm_r (nI_1 V1.length) (nxt x hx (rf_mxQ_keep hQ (Or.inr (by omega))))) (fun g => ⟨hi, nm_e (nm_r (nI_1 V1.length) (nxt e.2 (by omega) (rf_mxQ_put hQ h g)))⟩)
theorem ry_lng {post : Int32 → SY → Prop} {a lp ll : Nat → Int32} {c kn : Int32} {t r m : Nat} (ht : t ≤ 24) (h1 : 1 ≤ m) (hm : m ≤ 24) (hk : rf_kn a t c kn lp ll) (hp : ∀ x lp ll, rf_H lp ll (rf_L a t) → rf_mx (rf_Q a t m) x → post (nI x) (nI t, nI r, nI (rf_L a t).length, 1, a, lp, ll)) : wpY_longest post (nI t, nI r, c, kn, a, lp, ll) (nI m) := by
  refine pk_lt m 1 (fun h => by omega) (fun _ => pk_le m 24 (fun _ => ry_list ht hk ?_) (fun h => by omega))
  intro lp ll hH
  refine ⟨(rf_L a t).length + 1, ry_lng22 ht hm hH (fun x hx => hp x lp ll hH (rf_mx_iff (fun n hn => rf_Q_iff ht hn) hx)) (rf_L a t) [] 0 rfl (by omega) ⟨Or.inl rfl, fun n hn hQ => ?_⟩⟩
  obtain ⟨e, he, _⟩ := hQ
  exact absurd he List.not_mem_nil
end
section
theorem ry_wb0 {post : Int32 → Prop} {J : Int32 → Int32 → Prop} {a lp ll : Nat → Int32} {c kn side z lt : Int32} {t r i s n q k : Nat} (ht : t ≤ 24) (hi : i < 300) (hlp : lp i = nI s) (hs : s + n ≤ 36) (hq : q + n ≤ t) (hJ : J (nI k) (nI (q + 1))) : wY_withBeside_63 post J (nI i) lt side (nI k) (nI n) (nI q) z 0 (nI t) (nI r) c kn a lp ll := by
  unfold wY_withBeside_63
  refine ⟨pk_in i 300 hi, ?_⟩
  rw [nI_clamp (n := i) (by omega), hlp]
  refine ry_same ht hq hs (rf_b_if (fun _ => br_t rfl (nm_r (nI_1 q) hJ)) (fun _ => nm_r (nI_1 q) hJ))
theorem ry_wb1 {post : Int32 → Prop} {J : Int32 → Int32 → Prop} {a lp ll : Nat → Int32} {c kn side lt : Int32} {t r i s n q k j : Nat} (ht : t ≤ 24) (hi : i < 300) (hlp : lp i = nI s) (hs : s + n ≤ 36) (hq : q + n ≤ t) (hj : j < 36) (h1 : rf_oc a t (rf_wd a s n) q = true → a j = lt → J (nI (k + 1)) (nI (q + 1))) (h0 : ¬ (rf_oc a t (rf_wd a s n) q = true ∧ a j = lt) → J (nI k) (nI (q + 1))) : wY_withBeside_63 post J (nI i) lt side (nI k) (nI n) (nI q) (nI j) 1 (nI t) (nI r) c kn a lp ll := by
  unfold wY_withBeside_63
  refine ⟨pk_in i 300 hi, ?_⟩
  rw [nI_clamp (n := i) (by omega), hlp]
  refine ry_same ht hq hs (rf_b_if (fun h => br_f (by decide) ⟨pk_in j 36 hj, ?_⟩) (fun h => nm_r (nI_1 q) (h0 (fun z => h z.1))))
  rw [nI_clamp (n := j) (by omega)]
  by_cases g : a j = lt
  · exact br_t g (nm_r (nI_1 k) (nm_r (nI_1 q) (h1 h g)))
  · exact br_f g (nm_r (nI_1 q) (h0 (fun z => g z.2)))
theorem ry_wbL {post : Int32 → Prop} {a lp ll : Nat → Int32} {c kn lt : Int32} {t r i s n : Nat} (ht : t ≤ 24) (hi : i < 300) (hlp : lp i = nI s) (hn : 1 ≤ n) (hs : s + n ≤ 36) (hp : post (nI (rf_cn (rf_wl a t (rf_wd a s n) lt) t))) : ∀ d q : Nat, q + d = t → wY_withBeside_14 post (nI i) lt (-1) (nI n) (nI t) (nI r) c kn a lp ll (d + 1) (nI (rf_cn (rf_wl a t (rf_wd a s n) lt) q)) (nI q) := by
  have fin : ∀ q, q ≤ t → t < q + n → post (nI (rf_cn (rf_wl a t (rf_wd a s n) lt) q)) := by
    intro q hq hf
    have : rf_cn (rf_wl a t (rf_wd a s n) lt) t = rf_cn (rf_wl a t (rf_wd a s n) lt) q := rf_cn_up t hq (fun j h1 h2 z => rf_oc_no (by omega) (rf_wl_iff.mp z).1)
    rw [← this]
    exact hp
  intro d
  induction d with
  | zero =>
    intro q hq
    exact pk_lt t (q + n) (fun h => fin q (by omega) h) (fun h => by omega) rfl (nI_add q n)
  | succ d ih =>
    intro q hq
    have i1 := ih (q + 1) (by omega)
    refine pk_lt t (q + n) (fun h => fin q (by omega) h) (fun h0 => br_f (by decide) ?_) rfl (nI_add q n)
    by_cases hq0 : q = 0
    · subst hq0
      rw [rf_cn_f (fun z => by have := (rf_wl_iff.mp z).2.1; omega)] at i1
      exact br_t (by decide) (ry_wb0 ht hi hlp hs h0 i1)
    · obtain ⟨j, rfl⟩ : ∃ j, q = j + 1 := ⟨q - 1, by omega⟩
      rw [nI_pred j]
      refine br_f (nI_pos (by omega)) (pk_le t j (fun h => by omega) (fun _ => ry_wb1 ht hi hlp hs h0 (by omega) (fun g1 g2 => ?_) (fun g => ?_)))
      · rw [rf_cn_t (rf_wl_iff.mpr ⟨g1, by omega, g2⟩)] at i1
        exact i1
      · rw [rf_cn_f (fun z => g ⟨(rf_wl_iff.mp z).1, (rf_wl_iff.mp z).2.2⟩)] at i1
        exact i1
theorem ry_wbR {post : Int32 → Prop} {a lp ll : Nat → Int32} {c kn lt : Int32} {t r i s n : Nat} (ht : t ≤ 24) (hi : i < 300) (hlp : lp i = nI s) (hn : 1 ≤ n) (hs : s + n ≤ 36) (hp : post (nI (rf_cn (rf_wr a t (rf_wd a s n) lt) t))) : ∀ d q : Nat, q + d = t → wY_withBeside_14 post (nI i) lt 1 (nI n) (nI t) (nI r) c kn a lp ll (d + 1) (nI (rf_cn (rf_wr a t (rf_wd a s n) lt) q)) (nI q) := by
  have fin : ∀ q, q ≤ t → t < q + n → post (nI (rf_cn (rf_wr a t (rf_wd a s n) lt) q)) := by
    intro q hq hf
    have : rf_cn (rf_wr a t (rf_wd a s n) lt) t = rf_cn (rf_wr a t (rf_wd a s n) lt) q := rf_cn_up t hq (fun j h1 h2 z => rf_oc_no (by omega) (rf_wr_iff.mp z).1)
    rw [← this]
    exact hp
  intro d
  induction d with
  | zero =>
    intro q hq
    exact pk_lt t (q + n) (fun h => fin q (by omega) h) (fun h => by omega) rfl (nI_add q n)
  | succ d ih =>
    intro q hq
    have i1 := ih (q + 1) (by omega)
    refine pk_lt t (q + n) (fun h => fin q (by omega) h) (fun h0 => br_t (by decide) ?_) rfl (nI_add q n)
    rw [nI_add q n]
    refine br_f (nI_pos (by omega)) (pk_le t (q + n) (fun h => ?_) (fun h => ry_wb1 ht hi hlp hs h0 (by omega) (fun g1 g2 => ?_) (fun g => ?_)))
    · rw [rf_cn_f (fun z => by have := (rf_wr_iff.mp z).2.1; rw [rf_wd_len] at this; omega)] at i1
      exact ry_wb0 ht hi hlp hs h0 i1
    · rw [rf_cn_t (rf_wr_iff.mpr ⟨g1, by rw [rf_wd_len]; omega, by rw [rf_wd_len]; exact g2⟩)] at i1
      exact i1
    · rw [rf_cn_f (fun z => g ⟨(rf_wr_iff.mp z).1, by have := (rf_wr_iff.mp z).2.2; rw [rf_wd_len] at this; exact this⟩)] at i1
      exact i1
theorem ry_max26 {post : Int32 → Prop} {a lp ll : Nat → Int32} {c kn : Int32} {t r i s n k : Nat} (ht : t ≤ 24) (hi : i < 300) (hk : k ≤ 24) (hlp : lp i = nI s) (hll : ll i = nI n) (hn : 1 ≤ n) (hs : s + n ≤ 36)
    (y1 : (∀ l, l < 4 → rf_cn (rf_wl a t (rf_wd a s n) (nI l)) t ≠ k ∧ rf_cn (rf_wr a t (rf_wd a s n) (nI l)) t ≠ k) → post 1)
    (y0 : ¬ (∀ l, l < 4 → rf_cn (rf_wl a t (rf_wd a s n) (nI l)) t ≠ k ∧ rf_cn (rf_wr a t (rf_wd a s n) (nI l)) t ≠ k) → post 0) :
    ∀ d l : Nat, l + d = 4 → (∀ j, j < l → rf_cn (rf_wl a t (rf_wd a s n) (nI j)) t ≠ k ∧ rf_cn (rf_wr a t (rf_wd a s n) (nI j)) t ≠ k) → wY_maximal_26 post (nI i) (nI k) (nI t) (nI r) c kn a lp ll (d + 1) (nI l) := by
  intro d
  induction d with
  | zero =>
    intro l hl h
    have : l = 4 := by omega
    subst this
    exact pk_le 4 4 (fun _ => y1 h) (fun h => by omega)
  | succ d ih =>
    intro l hl h
    have b1 := rf_cn_le (rf_wl a t (rf_wd a s n) (nI l)) t
    have b2 := rf_cn_le (rf_wr a t (rf_wd a s n) (nI l)) t
    refine pk_le 4 l (fun h => by omega) (fun _ => ⟨pk_in i 300 hi, ?_⟩)
    rw [nI_clamp (n := i) (by omega), hll]
    refine nm_e ⟨t + 1, ry_wbL ht hi hlp hn hs ?_ t 0 (by omega)⟩
    refine pk_eq (rf_cn (rf_wl a t (rf_wd a s n) (nI l)) t) k (fun g => y0 (fun z => (z l (by omega)).1 g)) (fun g => ⟨pk_in i 300 hi, ?_⟩)
    rw [nI_clamp (n := i) (by omega), hll]
    refine nm_e ⟨t + 1, ry_wbR ht hi hlp hn hs ?_ t 0 (by omega)⟩
    refine pk_eq (rf_cn (rf_wr a t (rf_wd a s n) (nI l)) t) k (fun g2 => y0 (fun z => (z l (by omega)).2 g2)) (fun g2 => nm_r (nI_1 l) (ih (l + 1) (by omega) (fun j hj => ?_)))
    by_cases z : j = l
    · subst z; exact ⟨g, g2⟩
    · exact h j (by omega)
theorem ry_max {post : Int32 → Prop} {a lp ll : Nat → Int32} {c kn : Int32} {t r i : Nat} {e : Nat × Nat} (ht : t ≤ 24) (hi : i < 300) (hlp : lp i = nI e.1) (hll : ll i = nI e.2) (hn : 1 ≤ e.2) (hs : e.1 + e.2 ≤ t) (hp : post (rf_b (rf_ym a t e))) : wpY_maximal post (nI t, nI r, c, kn, a, lp, ll) (nI i) := by
  have y1 : rf_ym a t e = true → post 1 := fun h => by rw [rf_b_t h] at hp; exact hp
  have y0 : ¬ rf_ym a t e = true → post 0 := fun h => by rw [rf_b_f h] at hp; exact hp
  have hc := rf_ct_le a t (rf_wd a e.1 e.2)
  refine ⟨pk_in i 300 hi, pk_in i 300 hi, ?_⟩
  rw [nI_clamp (n := i) (by omega), hlp, hll]
  refine ry_cnt ht hn (by omega) ?_
  refine pk_le 2 (rf_ct a t (rf_wd a e.1 e.2)) (fun h => ⟨4 + 1, ?_⟩) (fun h => y0 (fun z => by have := (rf_ym_iff.mp z).1; omega))
  exact ry_max26 ht hi (by omega) hlp hll hn (by omega) (fun g => y1 (rf_ym_iff.mpr ⟨h, g⟩)) (fun g => y0 (fun z => g (rf_ym_iff.mp z).2)) 4 0 (by omega) (fun j hj => by omega)
theorem ry_rep8 {post : Int32 → SY → Prop} {a lp ll : Nat → Int32} {kn : Int32} {t r : Nat} (ht : t ≤ 24) (hH : rf_H lp ll (rf_L a t)) (hp : post (nI (rf_kt (rf_ym a t) (rf_L a t))) (nI t, nI r, nI (rf_L a t).length, kn, a, lp, ll)) : ∀ (V2 V1 : List (Nat × Nat)), rf_L a t = V1 ++ V2 → wY_repeats_8 post (nI t) (nI r) (nI (rf_L a t).length) kn a lp ll (V2.length + 1) (nI (rf_kt (rf_ym a t) V1)) (nI V1.length) := by
  intro V2
  induction V2 with
  | nil =>
    intro V1 hL
    rw [List.append_nil] at hL
    have h3 := rf_L_300 (a := a) ht
    have hlen : V1.length = (rf_L a t).length := by rw [hL]
    refine pk_le (rf_L a t).length V1.length (fun _ => ?_) (fun h => by omega)
    rw [hL] at hp ⊢
    exact hp
  | cons e V2 ih =>
    intro V1 hL
    obtain ⟨l1, l2, l3, l4, l5⟩ := rf_Lat ht hH hL
    have hL2 : rf_L a t = (V1 ++ [e]) ++ V2 := by rw [hL, rf_mid]
    have nxt := ih (V1 ++ [e]) hL2
    rw [rf_len1] at nxt
    refine pk_le (rf_L a t).length V1.length (fun h => by omega) (fun _ => ry_max ht (by omega) l1 l2 l3.1 l3.2 (rf_b_if (fun g => ?_) (fun g => ?_)))
    · rw [rf_kt_t g] at nxt
      exact nm_r (nI_1 _) (nm_r (nI_1 V1.length) nxt)
    · rw [rf_kt_f g] at nxt
      exact nm_r (nI_1 V1.length) nxt
theorem ry_reps {post : Int32 → SY → Prop} {a lp ll : Nat → Int32} {c kn : Int32} {t r : Nat} (ht : t ≤ 24) (hk : rf_kn a t c kn lp ll) (hp : ∀ lp ll, rf_H lp ll (rf_L a t) → post (nI (rf_kt (rf_ym a t) (rf_L a t))) (nI t, nI r, nI (rf_L a t).length, 1, a, lp, ll)) : wpY_repeats post (nI t, nI r, c, kn, a, lp, ll) := by
  unfold wpY_repeats
  dsimp only
  refine ry_list ht hk ?_
  intro lp ll hH
  exact ⟨(rf_L a t).length + 1, ry_rep8 ht hH (hp lp ll hH) (rf_L a t) [] rfl⟩
theorem rf_od_end {a : Nat → Int32} {post : Int32 → Prop} {c kn : Int32} {lp ll : Nat → Int32} {t r s n b m i : Nat} (hn : n ≤ 36) (hm : m ≤ 36) (hi : i ≤ n ∧ i ≤ m ∧ (i = n ∨ i = m)) (hp : post (rf_od (rf_wd a (s + i) (n - i)) (rf_wd a (b + i) (m - i)))) : wY_order_70 post (nI n) (nI m) (nI t) (nI r) c kn a lp ll := by
  refine pk_eq n m (fun h => ?_) (fun h => pk_le m n (fun g => ?_) (fun g => ?_))
  · rw [show n - i = 0 by omega, show m - i = 0 by omega, rf_wd_0, rf_wd_0, rf_od_00] at hp
    exact hp
  · rw [show n - i = (n - i - 1) + 1 by omega, show m - i = 0 by omega, rf_wd_0, rf_wd_s, rf_od_0r] at hp
    exact hp
  · rw [show m - i = (m - i - 1) + 1 by omega, show n - i = 0 by omega, rf_wd_0, rf_wd_s, rf_od_0l] at hp
    exact hp
theorem ry_od3 {post : Int32 → Prop} {a lp ll : Nat → Int32} {c kn : Int32} {t r s n b m : Nat} (hs : s + n ≤ 36) (hb : b + m ≤ 36) : ∀ d i : Nat, n ≤ i + d → i ≤ n → i ≤ m → post (rf_od (rf_wd a (s + i) (n - i)) (rf_wd a (b + i) (m - i))) → wY_order_3 post (nI s) (nI n) (nI b) (nI m) (nI t) (nI r) c kn a lp ll (d + 1) (nI i) := by
  intro d
  induction d with
  | zero =>
    intro i hd hin him hp
    exact pk_le n i (fun h => rf_od_end (by omega) (by omega) (by omega) hp) (fun h => by omega)
  | succ d ih =>
    intro i hd hin him hp
    refine pk_le n i (fun h => rf_od_end (by omega) (by omega) (by omega) hp) (fun h => pk_le m i (fun g => rf_od_end (by omega) (by omega) (by omega) hp) (fun g => ⟨pk_in (s + i) 36 (by omega) (nI_add s i), pk_in (b + i) 36 (by omega) (nI_add b i), ?_⟩))
    have e1 : n - i = (n - (i + 1)) + 1 := by omega
    have e2 : m - i = (m - (i + 1)) + 1 := by omega
    rw [e1, e2, rf_wd_s, rf_wd_s] at hp
    rw [pk_cl (s + i) (nI_add s i), pk_cl (b + i) (nI_add b i)]
    by_cases hab : a (s + i) = a (b + i)
    · rw [rf_od_e hab] at hp
      exact br_t hab (nm_r (nI_1 i) (ih (i + 1) (by omega) (by omega) (by omega) hp))
    · refine br_f hab ⟨pk_in (s + i) 36 (by omega) (nI_add s i), pk_in (b + i) 36 (by omega) (nI_add b i), ?_⟩
      by_cases z : a (s + i) < a (b + i)
      · rw [rf_od_lt z] at hp
        exact br_f (fun y => Int32.not_lt.mpr y z) hp
      · rw [rf_od_gt hab z] at hp
        exact br_t (Int32.not_lt.mp z) hp
theorem ry_od {post : Int32 → Prop} {a lp ll : Nat → Int32} {c kn : Int32} {t r s n b m : Nat} (hs : s + n ≤ 36) (hb : b + m ≤ 36) (hp : post (rf_od (rf_wd a s n) (rf_wd a b m))) : wpY_order post (nI t, nI r, c, kn, a, lp, ll) (nI s) (nI n) (nI b) (nI m) :=
  ⟨n + 1, ry_od3 hs hb n 0 (by omega) (by omega) (by omega) hp⟩
/-- branches on the order -/
theorem rf_od_b1 {x y : List Int32} {A B : Prop} (f : ¬ rf_lx x y = true → A) (g : rf_lx x y = true → B) : (0 ≤ rf_od x y → A) ∧ (¬ 0 ≤ rf_od x y → B) :=
  ⟨fun z => f (fun w => Int32.not_lt.mpr z (rf_od_neg.mpr w)), fun z => g (by
    by_cases w : rf_lx x y = true
    · exact w
    · exact absurd (Int32.not_lt.mp (fun q => w (rf_od_neg.mp q))) z)⟩
theorem rf_od_b2 {x y : List Int32} {A B : Prop} (f : ¬ rf_lx y x = true → A) (g : rf_lx y x = true → B) : (rf_od x y ≤ 0 → A) ∧ (¬ rf_od x y ≤ 0 → B) :=
  ⟨fun z => f (fun w => Int32.not_lt.mpr z (rf_od_pos.mpr w)), fun z => g (by
    by_cases w : rf_lx y x = true
    · exact w
    · exact absurd (Int32.not_lt.mp (fun q => w (rf_od_pos.mp q))) z)⟩
end
section
/-- an index of the list, or -1 for none -/
def rf_ix (L : List (Nat × Nat)) (b : Nat × Nat) (x : Int32) : Prop := (x = -1 ∧ b = (0, 0)) ∨ (∃ j, x = nI j ∧ L[j]? = some b)
theorem rf_ix_at {a lp ll : Nat → Int32} {t j : Nat} {b : Nat × Nat} (ht : t ≤ 24) (hH : rf_H lp ll (rf_L a t)) (h : (rf_L a t)[j]? = some b) : j < 300 ∧ lp j = nI b.1 ∧ ll j = nI b.2 ∧ 1 ≤ b.2 ∧ b.1 + b.2 ≤ t := by
  obtain ⟨h1, h2⟩ := List.getElem?_eq_some_iff.mp h
  have h3 := rf_L_300 (a := a) ht
  have h4 := hH j b h
  have hm : b ∈ rf_L a t := by rw [← h2]; exact List.getElem_mem h1
  have h5 := rf_L_bd b hm
  exact ⟨by omega, h4.1, h4.2, h5.1, h5.2⟩
theorem ry_fo52_0 {post : Int32 → Prop} {J : Int32 → Int32 → Prop} {a lp ll : Nat → Int32} {c kn x1 x2 : Int32} {t r i : Nat} (hJ : J x2 (nI (i + 1))) : wY_following_52 post J x1 x2 (nI i) 0 (nI t) (nI r) c kn a lp ll :=
  br_t rfl (nm_r (nI_1 i) hJ)
theorem ry_fo52_1 {post : Int32 → Prop} {J : Int32 → Int32 → Prop} {a lp ll : Nat → Int32} {c kn x1 x2 : Int32} {t r i : Nat} {b e : Nat × Nat} (ht : t ≤ 24) (hH : rf_H lp ll (rf_L a t)) (he : (rf_L a t)[i]? = some e) (hb : rf_ix (rf_L a t) b x2)
    (h1 : (b.2 = 0 ∨ rf_lx (rf_wd a e.1 e.2) (rf_wd a b.1 b.2) = true) → J (nI i) (nI (i + 1)))
    (h0 : ¬ b.2 = 0 → ¬ rf_lx (rf_wd a e.1 e.2) (rf_wd a b.1 b.2) = true → J x2 (nI (i + 1))) : wY_following_52 post J x1 x2 (nI i) 1 (nI t) (nI r) c kn a lp ll := by
  obtain ⟨e1, e2, e3, e4, e5⟩ := rf_ix_at ht hH he
  refine br_f (by decide) ?_
  rcases hb with ⟨hx, hb⟩ | ⟨j, hx, hb⟩
  · subst hx hb
    exact br_t (by decide) (nm_r (nI_1 i) (h1 (Or.inl rfl)))
  · obtain ⟨b1, b2, b3, b4, b5⟩ := rf_ix_at ht hH hb
    subst hx
    refine br_f (nI_pos (by omega)) ⟨pk_in i 300 e1, pk_in i 300 e1, pk_in j 300 b1, pk_in j 300 b1, ?_⟩
    rw [nI_clamp (n := i) (by omega), nI_clamp (n := j) (by omega), e2, e3, b2, b3]
    exact ry_od (by omega) (by omega) (rf_od_b1 (fun g => nm_r (nI_1 i) (h0 (by omega) g)) (fun g => nm_r (nI_1 i) (h1 (Or.inr g))))
theorem ry_fo4 {post : Int32 → Prop} {a lp ll : Nat → Int32} {kn x1 : Int32} {t r : Nat} {b0 : Nat × Nat} (ht : t ≤ 24) (hH : rf_H lp ll (rf_L a t)) (hb0 : rf_ix (rf_L a t) b0 x1) (hp : ∀ x, rf_ix (rf_L a t) (rf_bs a (rf_wd a b0.1 b0.2) (rf_L a t)) x → post x) : ∀ (V2 V1 : List (Nat × Nat)) (x2 : Int32), rf_L a t = V1 ++ V2 → rf_ix (rf_L a t) (rf_bs a (rf_wd a b0.1 b0.2) V1) x2 → wY_following_4 post x1 (nI t) (nI r) (nI (rf_L a t).length) kn a lp ll (V2.length + 1) x2 (nI V1.length) := by
  intro V2
  induction V2 with
  | nil =>
    intro V1 x2 hL hx
    rw [List.append_nil] at hL
    have h3 := rf_L_300 (a := a) ht
    have hlen : V1.length = (rf_L a t).length := by rw [hL]
    rw [← hL] at hx
    exact pk_le (rf_L a t).length V1.length (fun _ => hp x2 hx) (fun h => by omega)
  | cons e V2 ih =>
    intro V1 x2 hL hx
    obtain ⟨l1, l2, l3, l4, l5⟩ := rf_Lat ht hH hL
    have hat : (rf_L a t)[V1.length]? = some e := by rw [hL]; exact rf_at
    have hL2 : rf_L a t = (V1 ++ [e]) ++ V2 := by rw [hL, rf_mid]
    have nxt : ∀ y, rf_ix (rf_L a t) (rf_st a (rf_wd a b0.1 b0.2) (rf_bs a (rf_wd a b0.1 b0.2) V1) e) y → wY_following_4 post x1 (nI t) (nI r) (nI (rf_L a t).length) kn a lp ll (V2.length + 1) y (nI (V1.length + 1)) := by
      intro y hy
      rw [← rf_bs_app] at hy
      have := ih (V1 ++ [e]) y hL2 hy
      rw [rf_len1] at this
      exact this
    have one : rf_lx (rf_wd a b0.1 b0.2) (rf_wd a e.1 e.2) = true → wY_following_52 post (wY_following_4 post x1 (nI t) (nI r) (nI (rf_L a t).length) kn a lp ll (V2.length + 1)) x1 x2 (nI V1.length) 1 (nI t) (nI r) (nI (rf_L a t).length) kn a lp ll := by
      intro hlx
      refine ry_fo52_1 ht hH hat hx (fun g => nxt _ ?_) (fun g1 g2 => nxt _ ?_)
      · rw [rf_st_t hlx g]
        exact Or.inr ⟨V1.length, rfl, hat⟩
      · rw [rf_st_f2 g1 g2]
        exact hx
    refine pk_le (rf_L a t).length V1.length (fun h => by omega) (fun _ => ?_)
    rcases hb0 with ⟨hx1, hb0⟩ | ⟨j, hx1, hb0⟩
    · refine br_t (by rw [hx1]; decide) (one ?_)
      rw [hb0]
      obtain ⟨m, hm⟩ : ∃ m, e.2 = m + 1 := ⟨e.2 - 1, by omega⟩
      rw [hm]; rfl
    · obtain ⟨b1, b2, b3, b4, b5⟩ := rf_ix_at ht hH hb0
      have hi : vp_in (nI V1.length) 300 := pk_in V1.length 300 (by omega)
      refine br_f (by rw [hx1]; exact nI_pos (by omega)) ⟨hi, hi, by rw [hx1]; exact pk_in j 300 b1, by rw [hx1]; exact pk_in j 300 b1, ?_⟩
      rw [show x1.toNatClampNeg = j by rw [hx1]; exact nI_clamp (by omega), nI_clamp (n := V1.length) (by omega), l1, l2, b2, b3]
      refine ry_od (by omega) (by omega) (rf_od_b2 (fun g => ?_) (fun g => one g))
      refine ry_fo52_0 (nxt x2 ?_)
      rw [rf_st_f1 g]
      exact hx
theorem ry_fo {post : Int32 → Prop} {a lp ll : Nat → Int32} {kn x1 : Int32} {t r : Nat} {b0 : Nat × Nat} (ht : t ≤ 24) (hH : rf_H lp ll (rf_L a t)) (hb0 : rf_ix (rf_L a t) b0 x1) (hp : ∀ x, rf_ix (rf_L a t) (rf_bs a (rf_wd a b0.1 b0.2) (rf_L a t)) x → post x) : wpY_following post (nI t, nI r, nI (rf_L a t).length, kn, a, lp, ll) x1 :=
  ⟨(rf_L a t).length + 1, ry_fo4 ht hH hb0 hp (rf_L a t) [] (-1) rfl (Or.inl ⟨rfl, rfl⟩)⟩
theorem ry_w27 {post : Int32 → SY → Prop} {a lp ll : Nat → Int32} {kn : Int32} {t r k : Nat} (ht : t ≤ 24) (hH : rf_H lp ll (rf_L a t)) (hk : k < (rf_L a t).length) (hp : post (nI (rf_cd (rf_it a t (k + 1)))) (nI t, nI r, nI (rf_L a t).length, kn, a, lp, ll)) : ∀ (d i : Nat) (x : Int32), i + d = k → rf_ix (rf_L a t) (rf_it a t (i + 1)) x → wY_word_27 post (nI k) (nI t) (nI r) (nI (rf_L a t).length) kn a lp ll (d + 1) x (nI i) := by
  have h3 := rf_L_300 (a := a) ht
  intro d
  induction d with
  | zero =>
    intro i x hi hx
    have : i = k := by omega
    subst this
    have hm := rf_L_bd _ (rf_it_mem ht hk)
    rcases hx with ⟨_, hx⟩ | ⟨j, hx, hj⟩
    · rw [hx] at hm
      exact absurd hm.1 (by decide)
    · obtain ⟨b1, b2, b3, b4, b5⟩ := rf_ix_at ht hH hj
      subst hx
      refine pk_le i i (fun _ => ⟨pk_in j 300 b1, pk_in j 300 b1, ?_⟩) (fun h => by omega)
      rw [nI_clamp (n := j) (by omega), b2, b3]
      show post (nI 25 * nI _ + nI _) _
      rw [pk_mul, nI_add]
      exact hp
  | succ d ih =>
    intro i x hi hx
    refine pk_le k i (fun h => by omega) (fun _ => ry_fo ht hH hx (fun y hy => nm_r (nI_1 i) (ih (i + 1) y (by omega) ?_)))
    rw [rf_it_s]
    exact hy
theorem ry_word {post : Int32 → SY → Prop} {a lp ll : Nat → Int32} {c kn : Int32} {t r k : Nat} (ht : t ≤ 24) (hk2 : k < 2 ^ 31) (hk : rf_kn a t c kn lp ll) (h1 : ∀ lp ll, rf_H lp ll (rf_L a t) → k < (rf_L a t).length → post (nI (rf_cd (rf_it a t (k + 1)))) (nI t, nI r, nI (rf_L a t).length, 1, a, lp, ll)) (h0 : ∀ lp ll, rf_H lp ll (rf_L a t) → (rf_L a t).length ≤ k → post (-3) (nI t, nI r, nI (rf_L a t).length, 1, a, lp, ll)) : wpY_word post (nI t, nI r, c, kn, a, lp, ll) (nI k) := by
  unfold wpY_word
  dsimp only
  refine ry_list ht hk ?_
  intro lp ll hH
  have h3 := rf_L_300 (a := a) ht
  refine br_f (nI_pos hk2) (pk_lt k (rf_L a t).length (fun h => ?_) (fun h => h0 lp ll hH h))
  refine ry_fo (b0 := (0, 0)) ht hH (Or.inl ⟨rfl, rfl⟩) (fun x hx => ⟨k + 1, ry_w27 ht hH h (h1 lp ll hH h) k 0 x (by omega) hx⟩)
theorem ry_rk18 {post : Int32 → SY → Prop} {a lp ll : Nat → Int32} {kn : Int32} {t r : Nat} (ht : t ≤ 24) (hr : r ≤ 12) (hH : rf_H lp ll (rf_L a t)) (hp : post (nI (rf_kt (fun e => rf_lx (rf_wd a e.1 e.2) (rf_wd a 24 r)) (rf_L a t))) (nI t, nI r, nI (rf_L a t).length, kn, a, lp, ll)) : ∀ (V2 V1 : List (Nat × Nat)), rf_L a t = V1 ++ V2 → wY_rank_18 post (nI t) (nI r) (nI (rf_L a t).length) kn a lp ll (V2.length + 1) (nI (rf_kt (fun e => rf_lx (rf_wd a e.1 e.2) (rf_wd a 24 r)) V1)) (nI V1.length) := by
  intro V2
  induction V2 with
  | nil =>
    intro V1 hL
    rw [List.append_nil] at hL
    have h3 := rf_L_300 (a := a) ht
    have hlen : V1.length = (rf_L a t).length := by rw [hL]
    refine pk_le (rf_L a t).length V1.length (fun _ => ?_) (fun h => by omega)
    rw [← hL]
    exact hp
  | cons e V2 ih =>
    intro V1 hL
    obtain ⟨l1, l2, l3, l4, l5⟩ := rf_Lat ht hH hL
    have hL2 : rf_L a t = (V1 ++ [e]) ++ V2 := by rw [hL, rf_mid]
    have nxt := ih (V1 ++ [e]) hL2
    rw [rf_len1] at nxt
    have hi : vp_in (nI V1.length) 300 := pk_in V1.length 300 (by omega)
    refine pk_le (rf_L a t).length V1.length (fun h => by omega) (fun _ => ⟨hi, hi, ?_⟩)
    rw [nI_clamp (n := V1.length) (by omega), l1, l2]
    refine ry_od (s := e.1) (n := e.2) (b := 24) (m := r) (by omega) (by omega) (rf_od_b1 (fun g => ?_) (fun g => ?_))
    · rw [rf_kt_f (f := fun e => rf_lx (rf_wd a e.1 e.2) (rf_wd a 24 r)) g] at nxt
      exact nm_r (nI_1 V1.length) nxt
    · rw [rf_kt_t (f := fun e => rf_lx (rf_wd a e.1 e.2) (rf_wd a 24 r)) g] at nxt
      exact nm_r (nI_1 _) (nm_r (nI_1 V1.length) nxt)
theorem ry_rank {post : Int32 → SY → Prop} {a lp ll : Nat → Int32} {c kn : Int32} {t r : Nat} (ht : t ≤ 24) (hr : r ≤ 12) (hk : rf_kn a t c kn lp ll) (h0 : r = 0 → post (-3) (nI t, nI r, c, kn, a, lp, ll)) (h1 : ∀ lp ll, rf_H lp ll (rf_L a t) → r ≠ 0 → post (nI (rf_kt (fun e => rf_lx (rf_wd a e.1 e.2) (rf_wd a 24 r)) (rf_L a t))) (nI t, nI r, nI (rf_L a t).length, 1, a, lp, ll)) : wpY_rank post (nI t, nI r, c, kn, a, lp, ll) := by
  refine pk_eq r 0 h0 (fun hne => ry_list ht hk ?_)
  intro lp ll hH
  exact ⟨(rf_L a t).length + 1, ry_rk18 ht hr hH (h1 lp ll hH hne) (rf_L a t) [] rfl⟩
/-- what the reference has found of the common words ahead of (p, n) -/
def rf_CI (a : Nat → Int32) (t r p n x : Nat) : Prop := (x = 0 ∨ (1 ≤ x ∧ rf_C a t r x)) ∧ ∀ q m, 1 ≤ m → q + m ≤ r → 0 < rf_ct a t (rf_wd a (24 + q) m) → (q < p ∨ (q = p ∧ m < n)) → m ≤ x
theorem ry_com16 {post : Int32 → Prop} {J : Int32 → Int32 → Prop} {a lp ll : Nat → Int32} {c kn : Int32} {t r p : Nat} (ht : t ≤ 24) (hr : r ≤ 12) (hJ : ∀ x, x ≤ r → rf_CI a t r (p + 1) 0 x → J (nI x) (nI (p + 1))) : ∀ (d n x : Nat), r + 1 ≤ p + n + d → x ≤ r → x < n → n ≤ r + 1 → rf_CI a t r p n x → p < r → wY_common_16 post J (nI p) (nI t) (nI r) c kn a lp ll (d + 1) (nI x) (nI n) := by
  have fin : ∀ n x, x ≤ r → r < p + n → rf_CI a t r p n x → J (nI x) (nI (p + 1)) := by
    intro n x hx h hI
    refine hJ x hx ⟨hI.1, fun q m h1 h2 h3 h4 => hI.2 q m h1 h2 h3 ?_⟩
    omega
  intro d
  induction d with
  | zero =>
    intro n x hd hx hxn hn hI hpr
    exact pk_lt r (p + n) (fun h => nm_r (nI_1 p) (fin n x hx h hI)) (fun h => by omega) rfl (nI_add p n)
  | succ d ih =>
    intro n x hd hx hxn hn hI hpr
    refine pk_lt r (p + n) (fun h => nm_r (nI_1 p) (fin n x hx h hI)) (fun h => ?_) rfl (nI_add p n)
    rw [show (24 : Int32) + nI p = nI (24 + p) from nI_add 24 p]
    have hc := rf_ct_le a t (rf_wd a (24 + p) n)
    refine ry_cnt ht (by omega) (by omega) (pk_le (rf_ct a t (rf_wd a (24 + p) n)) 0 (fun g => nm_r (nI_1 n) (ih (n + 1) x (by omega) hx (by omega) (by omega) ⟨hI.1, fun q m h1 h2 h3 h4 => ?_⟩ hpr)) (fun g => nm_r (nI_1 n) (ih (n + 1) n (by omega) (by omega) (by omega) (by omega) ⟨Or.inr ⟨by omega, p, by omega, g⟩, fun q m h1 h2 h3 h4 => ?_⟩ hpr)))
    · by_cases z : q = p ∧ m = n
      · obtain ⟨rfl, rfl⟩ := z
        omega
      · exact hI.2 q m h1 h2 h3 (by omega)
    · by_cases z : q = p ∧ m = n
      · omega
      · have := hI.2 q m h1 h2 h3 (by omega)
        omega
theorem ry_com4 {post : Int32 → Prop} {a lp ll : Nat → Int32} {c kn : Int32} {t r : Nat} (ht : t ≤ 24) (hr : r ≤ 12) (hp : ∀ x, rf_mx (rf_C a t r) x → post (nI x)) : ∀ (d p x : Nat), p + d = r → x ≤ r → rf_CI a t r p 0 x → wY_common_4 post (nI t) (nI r) c kn a lp ll (d + 1) (nI x) (nI p) := by
  intro d
  induction d with
  | zero =>
    intro p x hd hx hI
    refine pk_le r p (fun _ => hp x ⟨hI.1, fun n hn hC => ?_⟩) (fun h => by omega)
    obtain ⟨q, h1, h2⟩ := hC
    exact hI.2 q n hn h1 h2 (by omega)
  | succ d ih =>
    intro p x hd hx hI
    refine pk_le r p (fun h => by omega) (fun _ => nm_r (nI_1 x) ⟨r + 1 + 1, ry_com16 ht hr (fun y hy hI2 => ih (p + 1) y (by omega) hy hI2) (r + 1) (x + 1) x (by omega) hx (by omega) (by omega) ⟨hI.1, fun q m h1 h2 h3 h4 => ?_⟩ (by omega)⟩)
    by_cases z : q < p
    · exact hI.2 q m h1 h2 h3 (Or.inl z)
    · omega
theorem ry_com {post : Int32 → Prop} {a lp ll : Nat → Int32} {c kn : Int32} {t r : Nat} (ht : t ≤ 24) (hr : r ≤ 12) (hp : ∀ x, rf_mx (rf_C a t r) x → post (nI x)) : wpY_common post (nI t, nI r, c, kn, a, lp, ll) :=
  ⟨r + 1, ry_com4 ht hr hp r 0 0 (by omega) (by omega) ⟨Or.inl rfl, fun q m h1 h2 h3 h4 => by omega⟩⟩
theorem ry_un17 {post : Int32 → Prop} {a lp ll : Nat → Int32} {c kn : Int32} {t r p : Nat} (ht : t ≤ 24) (hpt : p < t) : ∀ d n : Nat, 1 ≤ n → n + d = t - p + 1 → post (rf_fd (rf_u1 a t p) n d) → wY_unique_17 post (nI p) (nI t) (nI r) c kn a lp ll (d + 1) (nI n) := by
  intro d
  induction d with
  | zero =>
    intro n h1 hn hp
    exact pk_lt t (p + n) (fun _ => hp) (fun h => by omega) rfl (nI_add p n)
  | succ d ih =>
    intro n h1 hn hp
    have hc := rf_ct_le a t (rf_wd a p n)
    refine pk_lt t (p + n) (fun h => by omega) (fun _ => ry_cnt ht h1 (by omega) ?_) rfl (nI_add p n)
    refine pk_eq (rf_ct a t (rf_wd a p n)) 1 (fun h => ?_) (fun h => ?_)
    · rw [rf_fd_t (rf_u1_iff.mpr h)] at hp
      exact hp
    · rw [rf_fd_f (fun z => h (rf_u1_iff.mp z))] at hp
      exact nm_r (nI_1 n) (ih (n + 1) (by omega) (by omega) hp)
end
section
theorem rx_sh12 {post : Int32 → SX → Prop} {a : Nat → Int32} {t r : Nat} (ht : t ≤ 24) (hp : post (nI (t - 1)) (nI (t - 1), nI r, rf_sh a (t - 1))) : ∀ d j : Nat, j + 1 + d = t → wX_shift_12 post (nI t) (nI r) (d + 1) (nI (j + 1)) (rf_sh a j) := by
  intro d
  induction d with
  | zero =>
    intro j hj
    have : t = j + 1 := by omega
    subst this
    exact pk_le (j + 1) (j + 1) (fun _ => nm_r (nI_pred j) hp) (fun h => by omega)
  | succ d ih =>
    intro j hj
    refine pk_le t (j + 1) (fun h => by omega) (fun _ => ⟨pk_in (j + 1) 36 (by omega), pk_in j 36 (by omega) (nI_pred j), nm_r ?_ (nm_r (nI_1 (j + 1)) (ih (j + 1) (by omega)))⟩)
    rw [nI_pred j, nI_clamp (n := j) (by omega), nI_clamp (n := j + 1) (by omega), rf_sh_s]
theorem ry_sh22 {post : Int32 → SY → Prop} {a lp ll : Nat → Int32} {c kn : Int32} {t r : Nat} (ht : t < 24) (hp : post (nI t) (nI t, nI r, c, 0, rf_sh a t, lp, ll)) : ∀ d j : Nat, j + d = t → wY_shift_22 post (nI t) (nI r) c kn (d + 1) (nI j) (rf_sh a j) lp ll := by
  intro d
  induction d with
  | zero =>
    intro j hj
    have : j = t := by omega
    subst this
    exact pk_le j j (fun _ => hp) (fun h => by omega)
  | succ d ih =>
    intro j hj
    refine pk_le t j (fun h => by omega) (fun _ => ⟨pk_in (j + 1) 36 (by omega) (nI_1 j), pk_in j 36 (by omega), nm_r ?_ (nm_r (nI_1 j) (ih (j + 1) (by omega)))⟩)
    rw [nI_1 j, nI_clamp (n := j) (by omega), nI_clamp (n := j + 1) (by omega), rf_sh_s]
end
section
/-- one text, one probe; the reference's list is unknown, or it is the list of the text -/
def i_Rel (k : Nat) (u : SX) (v : SY) : Prop := ∃ (a lp ll : Nat → Int32) (c kn : Int32) (t r : Nat), t ≤ 24 ∧ r ≤ 12 ∧ rf_ok a t ∧ rf_kn a t c kn lp ll ∧ u = (nI t, nI r, a) ∧ v = (nI t, nI r, c, kn, a, lp, ll)
theorem rr_mk {k : Nat} {a lp ll : Nat → Int32} {c kn : Int32} {t r : Nat} (ht : t ≤ 24) (hr : r ≤ 12) (ho : rf_ok a t) (hk : rf_kn a t c kn lp ll) : i_Rel k (nI t, nI r, a) (nI t, nI r, c, kn, a, lp, ll) :=
  ⟨a, lp, ll, c, kn, t, r, ht, hr, ho, hk, rfl, rfl⟩
theorem rr_kn {a lp ll : Nat → Int32} {t : Nat} (h : rf_H lp ll (rf_L a t)) : rf_kn a t (nI (rf_L a t).length) 1 lp ll := Or.inr ⟨rfl, rfl, h⟩
theorem i_up {k : Nat} {u : SX} {v : SY} (h : i_Rel k u v) : i_Rel (k + 2) u v := h
theorem i_vc0 : wpX_init (fun u => wpY_init (fun v => i_Rel 0 u v)) :=
  ⟨fun _ => 0, fun _ => 0, fun _ => 0, 0, 0, 0, 0, by omega, by omega, fun q hq => by omega, Or.inl rfl, rfl, rfl⟩
theorem rr_3 {l : Nat} (hl : l < 2 ^ 31) (h : ¬ (3 : Int32) < nI l) : l < 4 := by
  by_cases z : 3 < l
  · exact absurd (nI_lt (a := 3) z hl) h
  · omega
theorem i_vc_type {k : Nat} {u : SX} {v : SY} (I : i_Rel k u v) (hk : k + 2 ≤ 1024) (v1 : Int32) : wpX_type (fun r u' => wpY_type (fun r' v' => r' = r ∧ i_Rel (k + 2) u' v') v v1) u v1 := by
  obtain ⟨a, lp, ll, c, kn, t, r, ht, hr, ho, hn, rfl, rfl⟩ := I
  refine pk_lt t 24 (fun h => ?_) (fun h => ?_)
  · by_cases h0 : v1 < 0
    · refine br_t h0 (br_t rfl ?_)
      exact pk_eq t 24 (fun g => by omega) (fun _ => br_t h0 ⟨rfl, rr_mk ht hr ho hn⟩)
    · by_cases h3 : (3 : Int32) < v1
      · refine br_f h0 (br_t h3 (br_t rfl ?_))
        exact pk_eq t 24 (fun g => by omega) (fun _ => br_f h0 (br_f (fun z => Int32.not_lt.mpr z h3) ⟨rfl, rr_mk ht hr ho hn⟩))
      · obtain ⟨l, hl, rfl⟩ := nI_of h0
        have hl4 := rr_3 hl h3
        refine br_f h0 (br_f h3 (br_f (by decide) ⟨pk_in t 36 (by omega), nm_r (congrArg (fun i => upd a i (nI l)) (pk_cl t)) (nm_r (nI_1 t) ?_)⟩))
        refine pk_eq t 24 (fun g => by omega) (fun _ => br_f h0 (br_t (Int32.not_lt.mp h3) ⟨pk_in t 36 (by omega), nm_r (congrArg (fun i => upd a i (nI l)) (pk_cl t)) (nm_r (nI_1 t) ⟨rfl, ?_⟩)⟩))
        exact rr_mk (by omega) hr (rf_ok_put hl4 ho) (Or.inl rfl)
  · exact pk_eq t 24 (fun g => ⟨rfl, rr_mk ht hr ho hn⟩) (fun g => by omega)
theorem i_vc_shift {k : Nat} {u : SX} {v : SY} (I : i_Rel k u v) (hk : k + 2 ≤ 1024) : wpX_shift (fun r u' => wpY_shift (fun r' v' => r' = r ∧ i_Rel (k + 2) u' v') v) u := by
  obtain ⟨a, lp, ll, c, kn, t, r, ht, hr, ho, hn, rfl, rfl⟩ := I
  refine pk_lt 0 t (fun h => ?_) (fun h => ?_)
  · obtain ⟨s, rfl⟩ : ∃ s, t = s + 1 := ⟨t - 1, by omega⟩
    have key := rx_sh12 (post := fun r_1 u' => wpY_shift (fun r' v' => r' = r_1 ∧ i_Rel (k + 2) u' v') (nI (s + 1), nI r, c, kn, a, lp, ll)) (a := a) (r := r) ht ?_ s 0 (by omega)
    · rw [rf_sh_0] at key
      exact ⟨s + 1, key⟩
    · refine pk_eq (s + 1) 0 (fun g => by omega) (fun _ => nm_r (nI_pred s) ?_)
      have key2 := ry_sh22 (post := fun r' v' => r' = nI (s + 1 - 1) ∧ i_Rel (k + 2) (nI (s + 1 - 1), nI r, rf_sh a (s + 1 - 1)) v') (a := a) (lp := lp) (ll := ll) (c := c) (kn := kn) (r := r) (t := s) (by omega) ⟨rfl, rr_mk (by omega) hr (rf_ok_sh ho) (Or.inl rfl)⟩ s 0 (by omega)
      rw [rf_sh_0] at key2
      exact ⟨s + 1, key2⟩
  · exact pk_eq t 0 (fun g => ⟨rfl, rr_mk ht hr ho hn⟩) (fun g => by omega)
theorem i_vc_ask {k : Nat} {u : SX} {v : SY} (I : i_Rel k u v) (hk : k + 2 ≤ 1024) (v1 : Int32) : wpX_ask (fun r u' => wpY_ask (fun r' v' => r' = r ∧ i_Rel (k + 2) u' v') v v1) u v1 := by
  obtain ⟨a, lp, ll, c, kn, t, r, ht, hr, ho, hn, rfl, rfl⟩ := I
  refine pk_lt r 12 (fun h => ?_) (fun h => ?_)
  · by_cases h0 : v1 < 0
    · refine br_t h0 (br_t rfl ?_)
      exact pk_eq r 12 (fun g => by omega) (fun _ => br_t h0 ⟨rfl, rr_mk ht hr ho hn⟩)
    · by_cases h3 : (3 : Int32) < v1
      · refine br_f h0 (br_t h3 (br_t rfl ?_))
        exact pk_eq r 12 (fun g => by omega) (fun _ => br_f h0 (br_f (fun z => Int32.not_lt.mpr z h3) ⟨rfl, rr_mk ht hr ho hn⟩))
      · have e24 : (24 : Int32) + nI r = nI (24 + r) := nI_add 24 r
        have ecl : ((24 : Int32) + nI r).toNatClampNeg = 24 + r := pk_cl (24 + r) e24
        have same : ∀ j, j < t → upd a (24 + r) v1 j = a j := fun j hj => pk_un (by omega)
        refine br_f h0 (br_f h3 (br_f (by decide) ⟨pk_in (24 + r) 36 (by omega) e24, nm_r (congrArg (fun i => upd a i v1) ecl) (nm_r (nI_1 r) ?_)⟩))
        refine pk_eq r 12 (fun g => by omega) (fun _ => br_f h0 (br_t (Int32.not_lt.mp h3) ⟨pk_in (24 + r) 36 (by omega) e24, nm_r (congrArg (fun i => upd a i v1) ecl) (nm_r (nI_1 r) ⟨rfl, ?_⟩)⟩))
        refine rr_mk ht (by omega) (rf_ok_cong same ho) ?_
        unfold rf_kn
        rw [rf_L_cong same]
        exact hn
  · exact pk_eq r 12 (fun g => ⟨rfl, rr_mk ht hr ho hn⟩) (fun g => by omega)
theorem i_vc_wipe {k : Nat} {u : SX} {v : SY} (I : i_Rel k u v) (hk : k + 2 ≤ 1024) : wpX_wipe (fun r u' => wpY_wipe (fun r' v' => r' = r ∧ i_Rel (k + 2) u' v') v) u := by
  obtain ⟨a, lp, ll, c, kn, t, r, ht, hr, ho, hn, rfl, rfl⟩ := I
  exact ⟨rfl, rr_mk (r := 0) ht (by omega) ho hn⟩
theorem i_vc_count {k : Nat} {u : SX} {v : SY} (I : i_Rel k u v) (hk : k + 2 ≤ 1024) : wpX_count (fun r => wpY_count (fun r' => r' = r ∧ i_Rel (k + 2) u v) v) u := by
  obtain ⟨a, lp, ll, c, kn, t, r, ht, hr, ho, hn, rfl, rfl⟩ := I
  refine pk_eq r 0 (fun h => ?_) (fun h => rx_cnt (s := 24) ht (by omega) ?_)
  · exact pk_eq r 0 (fun _ => ⟨rfl, rr_mk ht hr ho hn⟩) (fun g => by omega)
  · exact pk_eq r 0 (fun g => by omega) (fun g => ry_cnt (s := 24) ht (by omega) (by omega) ⟨rfl, rr_mk ht hr ho hn⟩)
theorem i_vc_place {k : Nat} {u : SX} {v : SY} (I : i_Rel k u v) (hk : k + 2 ≤ 1024) : wpX_place (fun r => wpY_place (fun r' => r' = r ∧ i_Rel (k + 2) u v) v) u := by
  obtain ⟨a, lp, ll, c, kn, t, r, ht, hr, ho, hn, rfl, rfl⟩ := I
  refine pk_eq r 0 (fun h => ?_) (fun h => rx_fp (s := 24) ht (by omega) ?_)
  · exact pk_eq r 0 (fun _ => ⟨rfl, rr_mk ht hr ho hn⟩) (fun g => by omega)
  · exact pk_eq r 0 (fun g => by omega) (fun g => ry_fp (s := 24) ht (by omega) (by omega) ⟨rfl, rr_mk ht hr ho hn⟩)
theorem i_vc_words {k : Nat} {u : SX} {v : SY} (I : i_Rel k u v) (hk : k + 2 ≤ 1024) : wpX_words (fun r => wpY_words (fun r' v' => r' = r ∧ i_Rel (k + 2) u v') v) u := by
  obtain ⟨a, lp, ll, c, kn, t, r, ht, hr, ho, hn, rfl, rfl⟩ := I
  exact rx_words ht (ry_words ht hn (fun lp ll hH => ⟨rfl, rr_mk ht hr ho (rr_kn hH)⟩))
theorem i_vc_longest {k : Nat} {u : SX} {v : SY} (I : i_Rel k u v) (hk : k + 2 ≤ 1024) (v1 : Int32) : wpX_longest (fun r => wpY_longest (fun r' v' => r' = r ∧ i_Rel (k + 2) u v') v v1) u v1 := by
  obtain ⟨a, lp, ll, c, kn, t, r, ht, hr, ho, hn, rfl, rfl⟩ := I
  by_cases h1 : v1 < 1
  · exact br_t h1 (br_t h1 ⟨rfl, rr_mk ht hr ho hn⟩)
  · by_cases h2 : v1 ≤ 24
    · have h0 : ¬ v1 < 0 := fun z => h1 (Int32.lt_trans z (by decide))
      obtain ⟨m, hm, rfl⟩ := nI_of h0
      have hm1 : 1 ≤ m := by
        by_cases z : m < 1
        · exact absurd (nI_lt (b := 1) z (by omega)) h1
        · omega
      have hm2 : m ≤ 24 := (nI_leI (b := 24) hm (by omega)).mp h2
      exact rx_lng ht hm1 hm2 (fun x hx => ry_lng ht hm1 hm2 hn (fun y lp ll hH hy => ⟨by rw [rf_mx_un hx hy], rr_mk ht hr ho (rr_kn hH)⟩))
    · exact br_f h1 (br_f h2 (br_f h1 (br_f h2 ⟨rfl, rr_mk ht hr ho hn⟩)))
theorem i_vc_repeats {k : Nat} {u : SX} {v : SY} (I : i_Rel k u v) (hk : k + 2 ≤ 1024) : wpX_repeats (fun r => wpY_repeats (fun r' v' => r' = r ∧ i_Rel (k + 2) u v') v) u := by
  obtain ⟨a, lp, ll, c, kn, t, r, ht, hr, ho, hn, rfl, rfl⟩ := I
  exact rx_reps ht (ry_reps ht hn (fun lp ll hH => ⟨by rw [rf_reps ho], rr_mk ht hr ho (rr_kn hH)⟩))
theorem i_vc_word {k : Nat} {u : SX} {v : SY} (I : i_Rel k u v) (hk : k + 2 ≤ 1024) (v1 : Int32) : wpX_word (fun r => wpY_word (fun r' v' => r' = r ∧ i_Rel (k + 2) u v') v v1) u v1 := by
  obtain ⟨a, lp, ll, c, kn, t, r, ht, hr, ho, hn, rfl, rfl⟩ := I
  by_cases h0 : v1 < 0
  · refine br_t h0 ?_
    unfold wpY_word
    dsimp only
    exact ry_list ht hn (fun lp ll hH => br_t h0 ⟨rfl, rr_mk ht hr ho (rr_kn hH)⟩)
  · obtain ⟨j, hj, rfl⟩ := nI_of h0
    refine rx_word ht hj (fun h => ?_) (fun h => ?_)
    · exact ry_word ht hj hn (fun lp ll hH _ => ⟨rfl, rr_mk ht hr ho (rr_kn hH)⟩) (fun lp ll hH g => by omega)
    · exact ry_word ht hj hn (fun lp ll hH g => by omega) (fun lp ll hH _ => ⟨rfl, rr_mk ht hr ho (rr_kn hH)⟩)
theorem i_vc_rank {k : Nat} {u : SX} {v : SY} (I : i_Rel k u v) (hk : k + 2 ≤ 1024) : wpX_rank (fun r => wpY_rank (fun r' v' => r' = r ∧ i_Rel (k + 2) u v') v) u := by
  obtain ⟨a, lp, ll, c, kn, t, r, ht, hr, ho, hn, rfl, rfl⟩ := I
  refine rx_rank ht hr (fun h => ?_) (fun h => ?_)
  · exact ry_rank ht hr hn (fun _ => ⟨rfl, rr_mk ht hr ho hn⟩) (fun lp ll hH g => absurd h g)
  · exact ry_rank ht hr hn (fun g => absurd g h) (fun lp ll hH _ => ⟨by rw [rf_rank], rr_mk ht hr ho (rr_kn hH)⟩)
theorem i_vc_common {k : Nat} {u : SX} {v : SY} (I : i_Rel k u v) (hk : k + 2 ≤ 1024) : wpX_common (fun r => wpY_common (fun r' => r' = r ∧ i_Rel (k + 2) u v) v) u := by
  obtain ⟨a, lp, ll, c, kn, t, r, ht, hr, ho, hn, rfl, rfl⟩ := I
  exact rx_com ht hr (fun x hx => ry_com ht hr (fun y hy => ⟨by rw [rf_mx_un hx hy], rr_mk ht hr ho hn⟩))
theorem i_vc_unique {k : Nat} {u : SX} {v : SY} (I : i_Rel k u v) (hk : k + 2 ≤ 1024) (v1 : Int32) : wpX_unique (fun r => wpY_unique (fun r' => r' = r ∧ i_Rel (k + 2) u v) v v1) u v1 := by
  obtain ⟨a, lp, ll, c, kn, t, r, ht, hr, ho, hn, rfl, rfl⟩ := I
  by_cases h0 : v1 < 0
  · exact br_t h0 (br_t h0 ⟨rfl, rr_mk ht hr ho hn⟩)
  · obtain ⟨p, hp, rfl⟩ := nI_of h0
    refine br_f h0 (pk_lt p t (fun h => ⟨t - p + 1, rx_un17 ht h (t - p) 1 (by omega) ?_⟩) (fun h => ?_))
    · exact br_f h0 (pk_lt p t (fun _ => ⟨t - p + 1, ry_un17 ht h (t - p) 1 (by omega) (by omega) ⟨rfl, rr_mk ht hr ho hn⟩⟩) (fun g => by omega))
    · exact br_f h0 (pk_lt p t (fun g => by omega) (fun _ => ⟨rfl, rr_mk ht hr ho hn⟩))
end
