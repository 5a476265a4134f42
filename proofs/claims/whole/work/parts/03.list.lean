/-- the pairs (p, 1) .. (p, k) -/
def rf_row (p : Nat) : Nat → List (Nat × Nat)
  | 0 => []
  | k + 1 => rf_row p k ++ [(p, k + 1)]
/-- all pairs with a place below the given one, in the order of the walks -/
def rf_al (t : Nat) : Nat → List (Nat × Nat)
  | 0 => []
  | p + 1 => rf_al t p ++ rf_row p (t - p)
theorem rf_row_s (p k : Nat) : rf_row p (k + 1) = rf_row p k ++ [(p, k + 1)] := rfl
theorem rf_al_s (t p : Nat) : rf_al t (p + 1) = rf_al t p ++ rf_row p (t - p) := rfl
theorem rf_row_mem {p : Nat} {e : Nat × Nat} : ∀ k : Nat, e ∈ rf_row p k ↔ e.1 = p ∧ 1 ≤ e.2 ∧ e.2 ≤ k := by
  intro k
  induction k with
  | zero =>
    constructor
    · intro h; exact absurd h List.not_mem_nil
    · intro h; omega
  | succ k ih =>
    rw [rf_row_s, List.mem_append, ih, List.mem_singleton]
    constructor
    · intro h
      rcases h with h | h
      · omega
      · rw [h]; exact ⟨rfl, by show 1 ≤ k + 1; omega, Nat.le_refl _⟩
    · intro h
      by_cases z : e.2 = k + 1
      · exact Or.inr (Prod.ext h.1 z)
      · exact Or.inl (by omega)
theorem rf_al_mem {t : Nat} {e : Nat × Nat} : ∀ p : Nat, e ∈ rf_al t p ↔ e.1 < p ∧ 1 ≤ e.2 ∧ e.2 ≤ t - e.1 := by
  intro p
  induction p with
  | zero =>
    constructor
    · intro h; exact absurd h List.not_mem_nil
    · intro h; omega
  | succ p ih =>
    rw [rf_al_s, List.mem_append, ih, rf_row_mem]
    constructor
    · intro h
      rcases h with h | h
      · omega
      · have := h.1; subst this; omega
    · intro h
      by_cases z : e.1 = p
      · subst z; exact Or.inr ⟨rfl, by omega, by omega⟩
      · exact Or.inl (by omega)
theorem rf_ind {t : Nat} {P : List (Nat × Nat) → Prop} (h0 : P []) (hs : ∀ p n, p < t → n < t - p → P (rf_al t p ++ rf_row p n) → P (rf_al t p ++ rf_row p (n + 1))) : ∀ p, p ≤ t → P (rf_al t p) := by
  intro p
  induction p with
  | zero => intro _; exact h0
  | succ p ih =>
    intro hp
    have base : P (rf_al t p ++ rf_row p 0) := by
      show P (rf_al t p ++ [])
      rw [List.append_nil]; exact ih (by omega)
    have : ∀ n, n ≤ t - p → P (rf_al t p ++ rf_row p n) := by
      intro n
      induction n with
      | zero => intro _; exact base
      | succ n ih2 => intro hn; exact hs p n (by omega) (by omega) (ih2 (by omega))
    exact this (t - p) (Nat.le_refl _)
theorem rf_row_len (p : Nat) : ∀ k, (rf_row p k).length = k := by
  intro k
  induction k with
  | zero => rfl
  | succ k ih => rw [rf_row_s, List.length_append, ih]; rfl
theorem rf_al_mono (t : Nat) : ∀ d p, (rf_al t p).length ≤ (rf_al t (p + d)).length := by
  intro d
  induction d with
  | zero => intro p; exact Nat.le_refl _
  | succ d ih =>
    intro p
    have := ih p
    rw [show p + (d + 1) = (p + d) + 1 by omega, rf_al_s, List.length_append]
    omega
theorem rf_al_300 : ∀ t : Fin 25, (rf_al t.val t.val).length ≤ 300 := by decide +kernel
theorem rf_al_room {t p n : Nat} (ht : t ≤ 24) (hp : p < t) (hn : n < t - p) : (rf_al t p ++ rf_row p n).length < 300 := by
  have h1 := rf_al_300 ⟨t, by omega⟩
  have h2 := rf_al_mono t (t - (p + 1)) (p + 1)
  rw [show p + 1 + (t - (p + 1)) = t by omega, rf_al_s, List.length_append, rf_row_len] at h2
  rw [List.length_append, rf_row_len]
  have h3 : (rf_al t t).length ≤ 300 := h1
  omega
/-- how many of a list -/
def rf_kt (f : Nat × Nat → Bool) : List (Nat × Nat) → Nat
  | [] => 0
  | e :: l => (if f e = true then 1 else 0) + rf_kt f l
theorem rf_kt_c (f : Nat × Nat → Bool) (e : Nat × Nat) (l : List (Nat × Nat)) : rf_kt f (e :: l) = (if f e = true then 1 else 0) + rf_kt f l := rfl
theorem rf_kt_app (f : Nat × Nat → Bool) (l m : List (Nat × Nat)) : rf_kt f (l ++ m) = rf_kt f l + rf_kt f m := by
  induction l with
  | nil => show rf_kt f m = 0 + rf_kt f m; omega
  | cons e l ih => rw [List.cons_append, rf_kt_c, rf_kt_c, ih]; omega
theorem rf_kt_t {f : Nat × Nat → Bool} {e : Nat × Nat} (h : f e = true) (l : List (Nat × Nat)) : rf_kt f (l ++ [e]) = rf_kt f l + 1 := by
  rw [rf_kt_app, rf_kt_c, if_pos h]; rfl
theorem rf_kt_f {f : Nat × Nat → Bool} {e : Nat × Nat} (h : ¬ f e = true) (l : List (Nat × Nat)) : rf_kt f (l ++ [e]) = rf_kt f l := by
  rw [rf_kt_app, rf_kt_c, if_neg h]; rfl
theorem rf_kt_le (f : Nat × Nat → Bool) (l : List (Nat × Nat)) : rf_kt f l ≤ l.length := by
  induction l with
  | nil => exact Nat.le_refl 0
  | cons e l ih =>
    rw [rf_kt_c, List.length_cons]
    by_cases h : f e = true
    · rw [if_pos h]; omega
    · rw [if_neg h]; omega
theorem rf_kt_all {f : Nat × Nat → Bool} {l : List (Nat × Nat)} (h : ∀ e, e ∈ l → f e = true) : rf_kt f l = l.length := by
  induction l with
  | nil => rfl
  | cons e l ih =>
    rw [rf_kt_c, List.length_cons, if_pos (h e List.mem_cons_self), ih (fun x hx => h x (List.mem_cons_of_mem e hx))]
    omega
theorem rf_kt_fil (f g : Nat × Nat → Bool) (l : List (Nat × Nat)) : rf_kt f (l.filter g) = rf_kt (fun e => g e && f e) l := by
  induction l with
  | nil => rfl
  | cons e l ih =>
    by_cases h : g e = true
    · rw [List.filter_cons_of_pos h, rf_kt_c, rf_kt_c, ih]
      simp only [h, Bool.true_and]
    · rw [List.filter_cons_of_neg h, rf_kt_c, ih]
      have h' : g e = false := by simpa using h
      simp [h']
theorem rf_kt_len (f : Nat × Nat → Bool) (l : List (Nat × Nat)) : (l.filter f).length = rf_kt f l := by
  induction l with
  | nil => rfl
  | cons e l ih =>
    by_cases h : f e = true
    · rw [List.filter_cons_of_pos h, rf_kt_c, if_pos h, List.length_cons, ih]; omega
    · rw [List.filter_cons_of_neg h, rf_kt_c, if_neg h, ih]; omega
theorem rf_kt_sum {f g h : Nat × Nat → Bool} {l : List (Nat × Nat)} (H : ∀ e, e ∈ l → f e = true → g e = true ∨ h e = true) : rf_kt f l ≤ rf_kt g l + rf_kt h l := by
  induction l with
  | nil => exact Nat.zero_le _
  | cons e l ih =>
    have i := ih (fun x hx => H x (List.mem_cons_of_mem e hx))
    have j := H e List.mem_cons_self
    rw [rf_kt_c, rf_kt_c, rf_kt_c]
    by_cases z : f e = true
    · rw [if_pos z]
      rcases j z with k | k
      · rw [if_pos k]; omega
      · rw [if_pos k]; omega
    · rw [if_neg z]; omega
theorem rf_kt_mono {f g : Nat × Nat → Bool} {l : List (Nat × Nat)} (H : ∀ e, e ∈ l → f e = true → g e = true) : rf_kt f l ≤ rf_kt g l := by
  have h0 : rf_kt (fun _ => false) l = 0 := by
    induction l with
    | nil => rfl
    | cons e l ih => rw [rf_kt_c, ih (fun x hx => H x (List.mem_cons_of_mem e hx))]; rfl
  have := rf_kt_sum (f := f) (g := g) (h := fun _ => false) (l := l) (fun e he z => Or.inl (H e he z))
  omega
theorem rf_kt_eq {f g : Nat × Nat → Bool} {l : List (Nat × Nat)} (H : ∀ e, e ∈ l → (f e = true ↔ g e = true)) : rf_kt f l = rf_kt g l :=
  Nat.le_antisymm (rf_kt_mono (fun e he => (H e he).mp)) (rf_kt_mono (fun e he => (H e he).mpr))
theorem rf_kt_ex {f : Nat × Nat → Bool} {l : List (Nat × Nat)} (h : 0 < rf_kt f l) : ∃ e, e ∈ l ∧ f e = true := by
  induction l with
  | nil => exact absurd h (Nat.lt_irrefl 0)
  | cons e l ih =>
    by_cases z : f e = true
    · exact ⟨e, List.mem_cons_self, z⟩
    · rw [rf_kt_c, if_neg z] at h
      obtain ⟨x, hx, hf⟩ := ih (by omega)
      exact ⟨x, List.mem_cons_of_mem e hx, hf⟩
theorem rf_kt_0 {f : Nat × Nat → Bool} {l : List (Nat × Nat)} (h : ∀ e, e ∈ l → ¬ f e = true) : rf_kt f l = 0 := by
  by_cases z : rf_kt f l = 0
  · exact z
  · obtain ⟨e, he, hf⟩ := rf_kt_ex (f := f) (l := l) (by omega)
    exact absurd hf (h e he)
/-- no pair stands twice -/
theorem rf_al_one (t : Nat) (b : Nat × Nat) : rf_kt (fun e => decide (e = b)) (rf_al t t) ≤ 1 := by
  refine rf_ind (t := t) (P := fun V => rf_kt (fun e => decide (e = b)) V ≤ 1) (Nat.zero_le 1) ?_ t (Nat.le_refl t)
  intro p n hp hn ih
  rw [rf_row_s, ← List.append_assoc]
  by_cases z : (p, n + 1) = b
  · have h0 : rf_kt (fun e => decide (e = b)) (rf_al t p ++ rf_row p n) = 0 := by
      apply rf_kt_0
      intro e he
      rw [decide_eq_true_iff]
      intro eb
      rw [List.mem_append, rf_al_mem, rf_row_mem, eb, ← z] at he
      rcases he with he | he
      · exact absurd he.1 (Nat.lt_irrefl p)
      · have := he.2.2; simp only at this; omega
    rw [rf_kt_t (f := fun e => decide (e = b)) (decide_eq_true_iff.mpr z), h0]
    exact Nat.le_refl _
  · rw [rf_kt_f (f := fun e => decide (e = b)) (fun y => z (decide_eq_true_iff.mp y))]
    exact ih
/-- the words of the text, each at its first place, in the order of the walks -/
def rf_L (a : Nat → Int32) (t : Nat) : List (Nat × Nat) := (rf_al t t).filter (rf_fs a t)
theorem rf_L_mem {a : Nat → Int32} {t : Nat} {e : Nat × Nat} : e ∈ rf_L a t ↔ (e.1 < t ∧ 1 ≤ e.2 ∧ e.2 ≤ t - e.1) ∧ rf_fs a t e = true := by
  unfold rf_L
  rw [List.mem_filter, rf_al_mem]
theorem rf_L_un {a : Nat → Int32} {t : Nat} (ht : t ≤ 24) {e f : Nat × Nat} (he : e ∈ rf_L a t) (hf : f ∈ rf_L a t) (h : rf_wd a e.1 e.2 = rf_wd a f.1 f.2) : e = f := by
  rw [rf_L_mem] at he hf
  exact rf_fs_un he.2 hf.2 (by omega) (by omega) h
theorem rf_L_one (a : Nat → Int32) (t : Nat) (b : Nat × Nat) : rf_kt (fun e => decide (e = b)) (rf_L a t) ≤ 1 := by
  unfold rf_L
  rw [rf_kt_fil]
  refine Nat.le_trans (rf_kt_mono (g := fun e => decide (e = b)) ?_) (rf_al_one t b)
  intro e _ h
  exact (Bool.and_eq_true_iff.mp h).2
theorem rf_L_300 {a : Nat → Int32} {t : Nat} (ht : t ≤ 24) : (rf_L a t).length ≤ 300 :=
  Nat.le_trans (List.length_filter_le _ _) (rf_al_300 ⟨t, by omega⟩)
/-- one step of the search for the next word after c: (0, 0) stands for none -/
def rf_st (a : Nat → Int32) (c : List Int32) (b e : Nat × Nat) : Nat × Nat :=
  if rf_lx c (rf_wd a e.1 e.2) = true ∧ (b.2 = 0 ∨ rf_lx (rf_wd a e.1 e.2) (rf_wd a b.1 b.2) = true) then e else b
def rf_bs (a : Nat → Int32) (c : List Int32) (V : List (Nat × Nat)) : Nat × Nat := V.foldl (rf_st a c) (0, 0)
theorem rf_bs_app (a : Nat → Int32) (c : List Int32) (V : List (Nat × Nat)) (e : Nat × Nat) : rf_bs a c (V ++ [e]) = rf_st a c (rf_bs a c V) e := by
  unfold rf_bs
  rw [List.foldl_append]; rfl
def rf_K (a : Nat → Int32) (c : List Int32) (V : List (Nat × Nat)) (b : Nat × Nat) : Prop :=
  (b = (0, 0) ∨ (b ∈ V ∧ rf_lx c (rf_wd a b.1 b.2) = true)) ∧ ∀ e, e ∈ V → rf_lx c (rf_wd a e.1 e.2) = true → b.2 ≠ 0 ∧ ¬ rf_lx (rf_wd a e.1 e.2) (rf_wd a b.1 b.2) = true
theorem rf_K_s {a : Nat → Int32} {c : List Int32} {V : List (Nat × Nat)} {b e : Nat × Nat} (he : 1 ≤ e.2) (h : rf_K a c V b) : rf_K a c (V ++ [e]) (rf_st a c b e) := by
  obtain ⟨h1, h2⟩ := h
  unfold rf_st
  by_cases z : rf_lx c (rf_wd a e.1 e.2) = true ∧ (b.2 = 0 ∨ rf_lx (rf_wd a e.1 e.2) (rf_wd a b.1 b.2) = true)
  · rw [if_pos z]
    refine ⟨Or.inr ⟨List.mem_append.mpr (Or.inr (List.mem_singleton.mpr rfl)), z.1⟩, fun f hf hc => ⟨by omega, ?_⟩⟩
    rcases List.mem_append.mp hf with hf | hf
    · obtain ⟨g1, g2⟩ := h2 f hf hc
      rcases z.2 with y | y
      · exact absurd y g1
      · exact fun x => g2 (rf_lx_tr _ _ _ x y)
    · rw [List.mem_singleton.mp hf, rf_lx_irr]
      exact Bool.false_ne_true
  · rw [if_neg z]
    refine ⟨?_, fun f hf hc => ?_⟩
    · rcases h1 with h1 | ⟨h3, h4⟩
      · exact Or.inl h1
      · exact Or.inr ⟨List.mem_append.mpr (Or.inl h3), h4⟩
    · rcases List.mem_append.mp hf with hf | hf
      · exact h2 f hf hc
      · have ef := List.mem_singleton.mp hf
        subst ef
        exact ⟨fun y => z ⟨hc, Or.inl y⟩, fun y => z ⟨hc, Or.inr y⟩⟩
theorem rf_K_f {a : Nat → Int32} {c : List Int32} : ∀ (V2 V1 : List (Nat × Nat)) (b : Nat × Nat), (∀ e, e ∈ V2 → 1 ≤ e.2) → rf_K a c V1 b → rf_K a c (V1 ++ V2) (V2.foldl (rf_st a c) b) := by
  intro V2
  induction V2 with
  | nil => intro V1 b _ h; rw [List.append_nil]; exact h
  | cons e V2 ih =>
    intro V1 b hV h
    rw [show V1 ++ e :: V2 = (V1 ++ [e]) ++ V2 by rw [List.append_assoc]; rfl, List.foldl_cons]
    exact ih (V1 ++ [e]) _ (fun x hx => hV x (List.mem_cons_of_mem e hx)) (rf_K_s (hV e List.mem_cons_self) h)
theorem rf_K_bs {a : Nat → Int32} {c : List Int32} {V : List (Nat × Nat)} (hV : ∀ e, e ∈ V → 1 ≤ e.2) : rf_K a c V (rf_bs a c V) := by
  have h : rf_K a c [] (0, 0) := ⟨Or.inl rfl, fun e he => absurd he List.not_mem_nil⟩
  exact rf_K_f V [] (0, 0) hV h
/-- the search over all pairs finds what the search over the list finds -/
theorem rf_bs_same {a : Nat → Int32} {t : Nat} (ht : t ≤ 24) (c : List Int32) : rf_bs a c (rf_al t t) = rf_bs a c (rf_L a t) := by
  unfold rf_L
  refine rf_ind (t := t) (P := fun V => rf_bs a c V = rf_bs a c (V.filter (rf_fs a t))) rfl ?_ t (Nat.le_refl t)
  intro p n hp hn ih
  rw [rf_row_s, ← List.append_assoc, rf_bs_app, List.filter_append]
  by_cases z : rf_fs a t (p, n + 1) = true
  · rw [List.filter_cons_of_pos z, List.filter_nil, rf_bs_app, ih]
  · rw [List.filter_cons_of_neg z, List.filter_nil, List.append_nil, ← ih]
    obtain ⟨q, h1, h2, h3, h4, h5⟩ := rf_fs_ex (a := a) (t := t) (p := p) (n := n + 1) ht (by omega) (by omega)
    have hqp : q ≠ p := fun y => z (h5 y)
    have hm : (q, n + 1) ∈ rf_al t p ++ rf_row p n := by
      rw [List.mem_append, rf_al_mem]
      exact Or.inl ⟨by show q < p; omega, by show 1 ≤ n + 1; omega, by show n + 1 ≤ t - q; omega⟩
    have hV : ∀ e, e ∈ rf_al t p ++ rf_row p n → 1 ≤ e.2 := by
      intro e he
      rw [List.mem_append, rf_al_mem, rf_row_mem] at he
      omega
    have hK := (rf_K_bs (a := a) (c := c) hV).2 (q, n + 1) hm
    generalize rf_bs a c (rf_al t p ++ rf_row p n) = b at hK ⊢
    unfold rf_st
    refine if_neg ?_
    intro y
    have hK' : rf_lx c (rf_wd a q (n + 1)) = true → b.2 ≠ 0 ∧ ¬ rf_lx (rf_wd a q (n + 1)) (rf_wd a b.1 b.2) = true := hK
    rw [h3] at hK'
    obtain ⟨g1, g2⟩ := hK' y.1
    rcases y.2 with x | x
    · exact g1 x
    · exact g2 x
/-- the k-th word: (0, 0) at the start -/
def rf_it (a : Nat → Int32) (t : Nat) : Nat → Nat × Nat
  | 0 => (0, 0)
  | k + 1 => rf_bs a (rf_wd a (rf_it a t k).1 (rf_it a t k).2) (rf_L a t)
theorem rf_it_s (a : Nat → Int32) (t k : Nat) : rf_it a t (k + 1) = rf_bs a (rf_wd a (rf_it a t k).1 (rf_it a t k).2) (rf_L a t) := rfl
theorem rf_L_pos {a : Nat → Int32} {t : Nat} : ∀ e, e ∈ rf_L a t → 1 ≤ e.2 := fun _ he => (rf_L_mem.mp he).1.2.1
theorem rf_it_step {a : Nat → Int32} {t : Nat} (ht : t ≤ 24) {c : List Int32} (h : 0 < rf_kt (fun e => rf_lx c (rf_wd a e.1 e.2)) (rf_L a t)) : rf_bs a c (rf_L a t) ∈ rf_L a t ∧ rf_kt (fun e => rf_lx c (rf_wd a e.1 e.2)) (rf_L a t) ≤ rf_kt (fun e => rf_lx (rf_wd a (rf_bs a c (rf_L a t)).1 (rf_bs a c (rf_L a t)).2) (rf_wd a e.1 e.2)) (rf_L a t) + 1 := by
  obtain ⟨h1, h2⟩ := rf_K_bs (a := a) (c := c) (V := rf_L a t) rf_L_pos
  obtain ⟨e, he, hc⟩ := rf_kt_ex h
  have hb : rf_bs a c (rf_L a t) ∈ rf_L a t := by
    rcases h1 with h1 | h1
    · have := (h2 e he hc).1
      rw [h1] at this
      exact absurd rfl this
    · exact h1.1
  refine ⟨hb, ?_⟩
  generalize rf_bs a c (rf_L a t) = b at h2 hb ⊢
  refine Nat.le_trans (rf_kt_sum (g := fun e => rf_lx (rf_wd a b.1 b.2) (rf_wd a e.1 e.2)) (h := fun e => decide (e = b)) ?_) (Nat.add_le_add_left (rf_L_one a t b) _)
  intro f hf hc2
  by_cases z : rf_lx (rf_wd a b.1 b.2) (rf_wd a f.1 f.2) = true
  · exact Or.inl z
  · right
    rw [decide_eq_true_iff]
    exact rf_L_un ht hf hb (rf_lx_tot _ _ (h2 f hf hc2).2 z)
theorem rf_it_cnt {a : Nat → Int32} {t : Nat} (ht : t ≤ 24) : ∀ k, k ≤ (rf_L a t).length → (rf_L a t).length ≤ rf_kt (fun e => rf_lx (rf_wd a (rf_it a t k).1 (rf_it a t k).2) (rf_wd a e.1 e.2)) (rf_L a t) + k := by
  intro k
  induction k with
  | zero =>
    intro _
    rw [rf_kt_all]
    · exact Nat.le_refl _
    · intro e he
      have := rf_L_pos e he
      show rf_lx [] (rf_wd a e.1 e.2) = true
      obtain ⟨m, hm⟩ : ∃ m, e.2 = m + 1 := ⟨e.2 - 1, by omega⟩
      rw [hm]; rfl
  | succ k ih =>
    intro hk
    have i := ih (by omega)
    have j := (rf_it_step (a := a) ht (c := rf_wd a (rf_it a t k).1 (rf_it a t k).2) (by omega)).2
    rw [rf_it_s]
    omega
theorem rf_it_mem {a : Nat → Int32} {t k : Nat} (ht : t ≤ 24) (hk : k < (rf_L a t).length) : rf_it a t (k + 1) ∈ rf_L a t := by
  have i := rf_it_cnt (a := a) ht k (by omega)
  exact (rf_it_step (a := a) ht (c := rf_wd a (rf_it a t k).1 (rf_it a t k).2) (by omega)).1
/-- the greatest number with a property: 0 if there is none -/
def rf_mx (Q : Nat → Prop) (r : Nat) : Prop := (r = 0 ∨ (1 ≤ r ∧ Q r)) ∧ ∀ n, 1 ≤ n → Q n → n ≤ r
theorem rf_mx_un {Q : Nat → Prop} {r s : Nat} (hr : rf_mx Q r) (hs : rf_mx Q s) : r = s := by
  obtain ⟨r1, r2⟩ := hr
  obtain ⟨s1, s2⟩ := hs
  have h1 : r ≤ s := by
    rcases r1 with z | z
    · omega
    · exact s2 r z.1 z.2
  have h2 : s ≤ r := by
    rcases s1 with z | z
    · omega
    · exact r2 s z.1 z.2
  omega
theorem rf_mx_iff {Q R : Nat → Prop} {r : Nat} (h : ∀ n, 1 ≤ n → (Q n ↔ R n)) (hr : rf_mx Q r) : rf_mx R r := by
  obtain ⟨r1, r2⟩ := hr
  refine ⟨?_, fun n hn hR => r2 n hn ((h n hn).mpr hR)⟩
  rcases r1 with z | z
  · exact Or.inl z
  · exact Or.inr ⟨z.1, (h r z.1).mp z.2⟩
