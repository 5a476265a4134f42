/-- a truth value as the machine holds it -/
def rf_b (c : Bool) : Int32 := if c = true then 1 else 0
theorem rf_b_t {c : Bool} (h : c = true) : rf_b c = 1 := if_pos h
theorem rf_b_f {c : Bool} (h : ¬ c = true) : rf_b c = 0 := if_neg h
theorem rf_b_if {c : Bool} {A B : Prop} (f : c = true → B) (g : ¬ c = true → A) : (rf_b c = 0 → A) ∧ (¬ rf_b c = 0 → B) := by
  by_cases h : c = true
  · rw [rf_b_t h]; exact ⟨fun z => absurd z (by decide), fun _ => f h⟩
  · rw [rf_b_f h]; exact ⟨fun _ => g h, fun z => absurd rfl z⟩
/-- the reference's order of two words -/
def rf_od (x y : List Int32) : Int32 := if rf_lx x y = true then -1 else if rf_lx y x = true then 1 else 0
theorem rf_od_neg {x y : List Int32} : rf_od x y < 0 ↔ rf_lx x y = true := by
  unfold rf_od
  by_cases h1 : rf_lx x y = true
  · rw [if_pos h1]; exact ⟨fun _ => h1, fun _ => by decide⟩
  · rw [if_neg h1]
    by_cases h2 : rf_lx y x = true
    · rw [if_pos h2]; exact ⟨fun z => absurd z (by decide), fun z => absurd z h1⟩
    · rw [if_neg h2]; exact ⟨fun z => absurd z (by decide), fun z => absurd z h1⟩
theorem rf_od_pos {x y : List Int32} : 0 < rf_od x y ↔ rf_lx y x = true := by
  unfold rf_od
  by_cases h1 : rf_lx x y = true
  · rw [if_pos h1]; exact ⟨fun z => absurd z (by decide), fun z => absurd z (rf_lx_as h1)⟩
  · rw [if_neg h1]
    by_cases h2 : rf_lx y x = true
    · rw [if_pos h2]; exact ⟨fun _ => h2, fun _ => by decide⟩
    · rw [if_neg h2]; exact ⟨fun z => absurd z (by decide), fun z => absurd z h2⟩
theorem rf_od_e {x y : Int32} (h : x = y) (xs ys : List Int32) : rf_od (x :: xs) (y :: ys) = rf_od xs ys := by
  unfold rf_od
  rw [rf_lx_e h, rf_lx_e h.symm]
theorem rf_od_lt {x y : Int32} (h : x < y) (xs ys : List Int32) : rf_od (x :: xs) (y :: ys) = -1 := by
  have n : ¬ x = y := fun e => by rw [e] at h; exact Int32.lt_irrefl h
  unfold rf_od
  rw [rf_lx_n n, if_pos (decide_eq_true_iff.mpr h)]
theorem rf_od_gt {x y : Int32} (n : ¬ x = y) (h : ¬ x < y) (xs ys : List Int32) : rf_od (x :: xs) (y :: ys) = 1 := by
  unfold rf_od
  rw [rf_lx_n n, if_neg (fun z => h (decide_eq_true_iff.mp z)), rf_lx_n (fun z => n z.symm), if_pos (decide_eq_true_iff.mpr (rf_i32 n h))]
theorem rf_od_00 : rf_od [] [] = 0 := rfl
theorem rf_od_0l (y : Int32) (ys : List Int32) : rf_od [] (y :: ys) = -1 := rfl
theorem rf_od_0r (x : Int32) (xs : List Int32) : rf_od (x :: xs) [] = 1 := rfl
/-- a text moved by one up to i -/
def rf_sh (a : Nat → Int32) (i : Nat) : Nat → Int32 := fun j => if j < i then a (j + 1) else a j
theorem rf_sh_0 (a : Nat → Int32) : rf_sh a 0 = a := funext fun j => if_neg (Nat.not_lt_zero j)
theorem rf_sh_lo {a : Nat → Int32} {i j : Nat} (h : j < i) : rf_sh a i j = a (j + 1) := if_pos h
theorem rf_sh_hi {a : Nat → Int32} {i j : Nat} (h : i ≤ j) : rf_sh a i j = a j := if_neg (by omega)
theorem rf_sh_s (a : Nat → Int32) (i : Nat) : upd (rf_sh a i) i (rf_sh a i (i + 1)) = rf_sh a (i + 1) := by
  funext j
  by_cases h : j = i
  · subst h
    rw [pk_us, rf_sh_hi (by omega), rf_sh_lo (by omega)]
  · rw [pk_un h]
    by_cases g : j < i
    · rw [rf_sh_lo g, rf_sh_lo (by omega)]
    · rw [rf_sh_hi (by omega), rf_sh_hi (by omega)]
/-- the reference's list holds V -/
def rf_H (lp ll : Nat → Int32) (V : List (Nat × Nat)) : Prop := ∀ (i : Nat) (e : Nat × Nat), V[i]? = some e → lp i = nI e.1 ∧ ll i = nI e.2
theorem rf_H_0 {lp ll : Nat → Int32} : rf_H lp ll [] := by
  intro i e h
  simp at h
theorem rf_H_s {lp ll : Nat → Int32} {V : List (Nat × Nat)} {p n : Nat} (h : rf_H lp ll V) : rf_H (upd lp V.length (nI p)) (upd ll V.length (nI n)) (V ++ [(p, n)]) := by
  intro i e he
  by_cases z : i = V.length
  · subst z
    rw [List.getElem?_append_right (Nat.le_refl _), Nat.sub_self] at he
    have := Option.some.inj he
    subst this
    rw [pk_us, pk_us]
    exact ⟨rfl, rfl⟩
  · have hi : i < V.length := by
      have := (List.getElem?_eq_some_iff.mp he).1
      rw [List.length_append] at this
      have h1 : [(p, n)].length = 1 := rfl
      omega
    rw [List.getElem?_append_left hi] at he
    rw [pk_un z, pk_un z]
    exact h i e he
theorem rf_H_at {lp ll : Nat → Int32} {V1 V2 : List (Nat × Nat)} {e : Nat × Nat} (h : rf_H lp ll (V1 ++ e :: V2)) : lp V1.length = nI e.1 ∧ ll V1.length = nI e.2 :=
  h V1.length e (by rw [List.getElem?_append_right (Nat.le_refl _), Nat.sub_self]; rfl)
theorem rf_at {V1 V2 : List (Nat × Nat)} {e : Nat × Nat} : (V1 ++ e :: V2)[V1.length]? = some e := by
  rw [List.getElem?_append_right (Nat.le_refl _), Nat.sub_self]; rfl
theorem rf_mid {V1 V2 : List (Nat × Nat)} {e : Nat × Nat} : V1 ++ e :: V2 = (V1 ++ [e]) ++ V2 := by rw [List.append_assoc]; rfl
theorem rf_len1 {V1 : List (Nat × Nat)} {e : Nat × Nat} : (V1 ++ [e]).length = V1.length + 1 := by rw [List.length_append]; rfl
/-- only the text below t matters to the list -/
theorem rf_wd_cong {a b : Nat → Int32} : ∀ n s : Nat, (∀ j, s ≤ j → j < s + n → a j = b j) → rf_wd a s n = rf_wd b s n := by
  intro n
  induction n with
  | zero => intro s _; rfl
  | succ n ih =>
    intro s h
    rw [rf_wd_s, rf_wd_s, h s (by omega) (by omega), ih (s + 1) (fun j h1 h2 => h j (by omega) (by omega))]
theorem rf_oc_cong {a b : Nat → Int32} {t : Nat} (h : ∀ j, j < t → a j = b j) (w : List Int32) : rf_oc a t w = rf_oc b t w := by
  funext q
  have : rf_oc a t w q = true ↔ rf_oc b t w q = true := by
    rw [rf_oc_iff, rf_oc_iff]
    constructor
    · intro ⟨h1, h2⟩
      refine ⟨h1, ?_⟩
      rw [← rf_wd_cong w.length q (fun j _ g => h j (by omega))]; exact h2
    · intro ⟨h1, h2⟩
      refine ⟨h1, ?_⟩
      rw [rf_wd_cong w.length q (fun j _ g => h j (by omega))]; exact h2
  exact Bool.eq_iff_iff.mpr this
theorem rf_L_cong {a b : Nat → Int32} {t : Nat} (h : ∀ j, j < t → a j = b j) : rf_L a t = rf_L b t := by
  unfold rf_L
  apply List.filter_congr
  intro e he
  rw [rf_al_mem] at he
  have hw : rf_wd a e.1 e.2 = rf_wd b e.1 e.2 := rf_wd_cong e.2 e.1 (fun j _ g => h j (by omega))
  unfold rf_fs rf_fp
  rw [hw, rf_oc_cong h]
theorem rf_ok_cong {a b : Nat → Int32} {t : Nat} (h : ∀ j, j < t → b j = a j) (g : rf_ok a t) : rf_ok b t := by
  intro q hq
  rw [h q hq]; exact g q hq
theorem rf_ok_put {a : Nat → Int32} {t l : Nat} (hl : l < 4) (g : rf_ok a t) : rf_ok (upd a t (nI l)) (t + 1) := by
  intro q hq
  by_cases z : q = t
  · subst z; exact ⟨l, hl, pk_us⟩
  · rw [pk_un z]; exact g q (by omega)
theorem rf_ok_sh {a : Nat → Int32} {t : Nat} (g : rf_ok a (t + 1)) : rf_ok (rf_sh a t) t := by
  intro q hq
  rw [rf_sh_lo hq]; exact g (q + 1) (by omega)
