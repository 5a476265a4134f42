/-- w stands at q, and l stands before it; behind it -/
def rf_wl (a : Nat → Int32) (t : Nat) (w : List Int32) (l : Int32) (q : Nat) : Bool := rf_oc a t w q && decide (1 ≤ q ∧ a (q - 1) = l)
def rf_wr (a : Nat → Int32) (t : Nat) (w : List Int32) (l : Int32) (q : Nat) : Bool := rf_oc a t w q && decide (q + w.length < t ∧ a (q + w.length) = l)
theorem rf_wl_iff {a : Nat → Int32} {t : Nat} {w : List Int32} {l : Int32} {q : Nat} : rf_wl a t w l q = true ↔ rf_oc a t w q = true ∧ 1 ≤ q ∧ a (q - 1) = l := by
  unfold rf_wl
  rw [Bool.and_eq_true_iff, decide_eq_true_iff]
theorem rf_wr_iff {a : Nat → Int32} {t : Nat} {w : List Int32} {l : Int32} {q : Nat} : rf_wr a t w l q = true ↔ rf_oc a t w q = true ∧ q + w.length < t ∧ a (q + w.length) = l := by
  unfold rf_wr
  rw [Bool.and_eq_true_iff, decide_eq_true_iff]
theorem rf_wl_lt {a : Nat → Int32} {t : Nat} {w : List Int32} {l : Int32} {p : Nat} (hp : p < t) (h : rf_oc a t w p = true) (hn : ¬ (1 ≤ p ∧ a (p - 1) = l)) : rf_cn (rf_wl a t w l) t < rf_ct a t w :=
  rf_cn_lt (j := p) h (fun z => hn (rf_wl_iff.mp z).2) t hp (fun _ _ z => (rf_wl_iff.mp z).1)
theorem rf_wr_lt {a : Nat → Int32} {t : Nat} {w : List Int32} {l : Int32} {p : Nat} (hp : p < t) (h : rf_oc a t w p = true) (hn : ¬ (p + w.length < t ∧ a (p + w.length) = l)) : rf_cn (rf_wr a t w l) t < rf_ct a t w :=
  rf_cn_lt (j := p) h (fun z => hn (rf_wr_iff.mp z).2) t hp (fun _ _ z => (rf_wr_iff.mp z).1)
theorem rf_wl_ct {a : Nat → Int32} {t p n : Nat} (hn : 1 ≤ n) (ht : 1 ≤ t) : rf_cn (rf_wl a t (rf_wd a (p + 1) n) (a p)) t = rf_ct a t (rf_wd a p (n + 1)) := by
  obtain ⟨u, rfl⟩ : ∃ u, t = u + 1 := ⟨t - 1, by omega⟩
  have h0 : ¬ rf_wl a (u + 1) (rf_wd a (p + 1) n) (a p) 0 = true := fun z => by
    have := (rf_wl_iff.mp z).2.1
    omega
  have h1 : ¬ rf_oc a (u + 1) (rf_wd a p (n + 1)) u = true := fun z => by
    have := (rf_oc_wd.mp z).1
    omega
  unfold rf_ct
  rw [rf_cn_sh _ h0, rf_cn_f h1]
  apply rf_cn_eq
  intro q hq
  show rf_wl a (u + 1) (rf_wd a (p + 1) n) (a p) (q + 1) = true ↔ _
  rw [rf_wl_iff, rf_oc_wd, rf_oc_wd, rf_wd_s, rf_wd_s, List.cons.injEq, Nat.add_sub_cancel]
  constructor
  · intro ⟨⟨g1, g2⟩, _, g3⟩
    exact ⟨by omega, g3, g2⟩
  · intro ⟨g1, g2, g3⟩
    exact ⟨⟨by omega, g3⟩, by omega, g2⟩
theorem rf_wr_ct {a : Nat → Int32} {t p n : Nat} : rf_cn (rf_wr a t (rf_wd a p n) (a (p + n))) t = rf_ct a t (rf_wd a p (n + 1)) := by
  unfold rf_ct
  apply rf_cn_eq
  intro q hq
  rw [rf_wr_iff, rf_oc_wd, rf_oc_wd, rf_wd_app, rf_wd_app, rf_wd_len]
  constructor
  · intro ⟨⟨g1, g2⟩, g3, g4⟩
    exact ⟨by omega, by rw [g2, g4]⟩
  · intro ⟨g1, g2⟩
    have g3 := List.append_inj g2 (by rw [rf_wd_len, rf_wd_len])
    exact ⟨⟨by omega, g3.1⟩, by omega, (List.cons.inj g3.2).1⟩
/-- X's test, and Y's -/
def rf_xm (a : Nat → Int32) (t : Nat) (e : Nat × Nat) : Bool := decide (2 ≤ rf_ct a t (rf_wd a e.1 e.2) ∧ ¬ (0 < e.1 ∧ rf_ct a t (rf_wd a (e.1 - 1) (e.2 + 1)) = rf_ct a t (rf_wd a e.1 e.2)) ∧ (t ≤ e.1 + e.2 ∨ rf_ct a t (rf_wd a e.1 (e.2 + 1)) < rf_ct a t (rf_wd a e.1 e.2)))
noncomputable def rf_ym (a : Nat → Int32) (t : Nat) (e : Nat × Nat) : Bool := @decide (2 ≤ rf_ct a t (rf_wd a e.1 e.2) ∧ ∀ l, l < 4 → rf_cn (rf_wl a t (rf_wd a e.1 e.2) (nI l)) t ≠ rf_ct a t (rf_wd a e.1 e.2) ∧ rf_cn (rf_wr a t (rf_wd a e.1 e.2) (nI l)) t ≠ rf_ct a t (rf_wd a e.1 e.2)) (Classical.propDecidable _)
theorem rf_ym_iff {a : Nat → Int32} {t : Nat} {e : Nat × Nat} : rf_ym a t e = true ↔ (2 ≤ rf_ct a t (rf_wd a e.1 e.2) ∧ ∀ l, l < 4 → rf_cn (rf_wl a t (rf_wd a e.1 e.2) (nI l)) t ≠ rf_ct a t (rf_wd a e.1 e.2) ∧ rf_cn (rf_wr a t (rf_wd a e.1 e.2) (nI l)) t ≠ rf_ct a t (rf_wd a e.1 e.2)) := by
  unfold rf_ym
  exact @decide_eq_true_iff _ (Classical.propDecidable _)
/-- the letters of the text are 0 to 3 -/
def rf_ok (a : Nat → Int32) (t : Nat) : Prop := ∀ q, q < t → ∃ l, l < 4 ∧ a q = nI l
theorem rf_maxL {a : Nat → Int32} {t p n : Nat} (hl : rf_ok a t) (hn : 1 ≤ n) (hp : p + n ≤ t) : (∀ l, l < 4 → rf_cn (rf_wl a t (rf_wd a p n) (nI l)) t ≠ rf_ct a t (rf_wd a p n)) ↔ ¬ (0 < p ∧ rf_ct a t (rf_wd a (p - 1) (n + 1)) = rf_ct a t (rf_wd a p n)) := by
  have ho : rf_oc a t (rf_wd a p n) p = true := rf_oc_wd.mpr ⟨hp, rfl⟩
  constructor
  · intro h ⟨h0, h1⟩
    obtain ⟨m, rfl⟩ : ∃ m, p = m + 1 := ⟨p - 1, by omega⟩
    rw [Nat.add_sub_cancel] at h1
    obtain ⟨l, l4, el⟩ := hl m (by omega)
    apply h l l4
    rw [← el, rf_wl_ct hn (by omega), h1]
  · intro h l l4 e
    by_cases z : 1 ≤ p ∧ a (p - 1) = nI l
    · obtain ⟨m, rfl⟩ : ∃ m, p = m + 1 := ⟨p - 1, by omega⟩
      rw [Nat.add_sub_cancel] at z h
      rw [← z.2, rf_wl_ct hn (by omega)] at e
      exact h ⟨by omega, e⟩
    · have := rf_wl_lt (by omega) ho z
      omega
theorem rf_maxR {a : Nat → Int32} {t p n : Nat} (hl : rf_ok a t) (hn : 1 ≤ n) (hp : p + n ≤ t) : (∀ l, l < 4 → rf_cn (rf_wr a t (rf_wd a p n) (nI l)) t ≠ rf_ct a t (rf_wd a p n)) ↔ (t ≤ p + n ∨ rf_ct a t (rf_wd a p (n + 1)) < rf_ct a t (rf_wd a p n)) := by
  have ho : rf_oc a t (rf_wd a p n) p = true := rf_oc_wd.mpr ⟨hp, rfl⟩
  have hle : rf_ct a t (rf_wd a p (n + 1)) ≤ rf_ct a t (rf_wd a p n) := by
    rw [← rf_wr_ct]
    exact rf_cn_mono t (fun _ _ z => (rf_wr_iff.mp z).1)
  constructor
  · intro h
    by_cases z : t ≤ p + n
    · exact Or.inl z
    · right
      obtain ⟨l, l4, el⟩ := hl (p + n) (by omega)
      have := h l l4
      rw [← el, rf_wr_ct] at this
      omega
  · intro h l l4 e
    by_cases z : p + (rf_wd a p n).length < t ∧ a (p + (rf_wd a p n).length) = nI l
    · rw [rf_wd_len] at z
      rw [← z.2, rf_wr_ct] at e
      omega
    · have := rf_wr_lt (by omega) ho z
      omega
theorem rf_max {a : Nat → Int32} {t : Nat} {e : Nat × Nat} (hl : rf_ok a t) (hn : 1 ≤ e.2) (hp : e.1 + e.2 ≤ t) : rf_xm a t e = true ↔ rf_ym a t e = true := by
  unfold rf_xm
  rw [rf_ym_iff, decide_eq_true_iff, ← rf_maxL hl hn hp, ← rf_maxR hl hn hp]
  constructor
  · intro ⟨h1, h2, h3⟩
    exact ⟨h1, fun l l4 => ⟨h2 l l4, h3 l l4⟩⟩
  · intro ⟨h1, h2⟩
    exact ⟨h1, fun l l4 => (h2 l l4).1, fun l l4 => (h2 l l4).2⟩
/-- the numbers of words, of maximal repeats, of words before one: over all pairs, and over the list -/
theorem rf_words (a : Nat → Int32) (t : Nat) : rf_kt (rf_fs a t) (rf_al t t) = (rf_L a t).length := (rf_kt_len _ _).symm
theorem rf_reps {a : Nat → Int32} {t : Nat} (hl : rf_ok a t) : rf_kt (fun e => rf_fs a t e && rf_xm a t e) (rf_al t t) = rf_kt (rf_ym a t) (rf_L a t) := by
  unfold rf_L
  rw [rf_kt_fil]
  apply rf_kt_eq
  intro e he
  rw [rf_al_mem] at he
  rw [Bool.and_eq_true_iff, Bool.and_eq_true_iff, rf_max hl he.2.1 (by omega)]
theorem rf_rank (a : Nat → Int32) (t : Nat) (w : List Int32) : rf_kt (fun e => rf_lx (rf_wd a e.1 e.2) w && rf_fs a t e) (rf_al t t) = rf_kt (fun e => rf_lx (rf_wd a e.1 e.2) w) (rf_L a t) := by
  unfold rf_L
  rw [rf_kt_fil]
  apply rf_kt_eq
  intro e _
  rw [Bool.and_eq_true_iff, Bool.and_eq_true_iff]
  exact And.comm
/-- some word of length n stands at least m times: over all places, and over the list -/
def rf_Q (a : Nat → Int32) (t m n : Nat) : Prop := ∃ p, p + n ≤ t ∧ m ≤ rf_ct a t (rf_wd a p n)
def rf_QL (a : Nat → Int32) (t m : Nat) (V : List (Nat × Nat)) (n : Nat) : Prop := ∃ e, e ∈ V ∧ e.2 = n ∧ m ≤ rf_ct a t (rf_wd a e.1 e.2)
theorem rf_Q_iff {a : Nat → Int32} {t m n : Nat} (ht : t ≤ 24) (hn : 1 ≤ n) : rf_QL a t m (rf_L a t) n ↔ rf_Q a t m n := by
  constructor
  · intro ⟨e, he, h1, h2⟩
    rw [rf_L_mem] at he
    subst h1
    exact ⟨e.1, by omega, h2⟩
  · intro ⟨p, h1, h2⟩
    obtain ⟨q, g1, g2, g3, g4, _⟩ := rf_fs_ex (a := a) ht hn h1
    refine ⟨(q, n), rf_L_mem.mpr ⟨⟨by show q < t; omega, hn, by show n ≤ t - q; omega⟩, g4⟩, rfl, ?_⟩
    show m ≤ rf_ct a t (rf_wd a q n)
    rw [g3]; exact h2
/-- some word of length n of the probe stands in the text -/
def rf_C (a : Nat → Int32) (t r n : Nat) : Prop := ∃ p, p + n ≤ r ∧ 0 < rf_ct a t (rf_wd a (24 + p) n)
theorem rf_fp_ct {a : Nat → Int32} {t : Nat} {w : List Int32} (ht : t ≤ 24) : ¬ rf_fp a t w = -3 ↔ 0 < rf_ct a t w := by
  rcases rf_fp_c a t w with ⟨q, h1, h2, h3, h4⟩ | ⟨h1, h2⟩
  · rw [h4]
    exact ⟨fun _ => rf_cn_pos h1 h2, fun _ => rf_m3 (by omega)⟩
  · constructor
    · intro h; exact absurd h2 h
    · intro h
      obtain ⟨q, hq, hf⟩ := rf_cn_ex t h
      exact absurd hf (h1 q hq)
/-- two loops, one within the other, over all pairs -/
theorem rf_nest {σ : Type} (t : Nat) (I : List (Nat × Nat) → σ → Prop) (O : Nat → Nat → σ → Prop) (N : Nat → Nat → Nat → Nat → σ → Prop)
    (hx : ∀ f s, I (rf_al t t) s → O (f + 1) t s)
    (ho : ∀ f p s, p < t → (∃ m, N f m p 0 s) → O (f + 1) p s)
    (hy : ∀ f m p s, p < t → O f (p + 1) s → N f (m + 1) p (t - p) s)
    (hs : ∀ f m p k s, p < t → k < t - p → I (rf_al t p ++ rf_row p k) s → (∀ s', I (rf_al t p ++ rf_row p (k + 1)) s' → N f m p (k + 1) s') → N f (m + 1) p k s) :
    ∀ d p s, p + d = t → I (rf_al t p) s → O (d + 1) p s := by
  intro d
  induction d with
  | zero =>
    intro p s hp h
    have : p = t := by omega
    subst this
    exact hx 0 s h
  | succ d ih =>
    intro p s hp h
    have inner : ∀ j k s, k + j = t - p → I (rf_al t p ++ rf_row p k) s → N (d + 1) (j + 1) p k s := by
      intro j
      induction j with
      | zero =>
        intro k s hk hI
        have : k = t - p := by omega
        subst this
        exact hy (d + 1) 0 p s (by omega) (ih (p + 1) s (by omega) hI)
      | succ j ihj =>
        intro k s hk hI
        exact hs (d + 1) (j + 1) p k s (by omega) (by omega) hI (fun s' hI' => ihj (k + 1) s' (by omega) hI')
    refine ho (d + 1) p s (by omega) ⟨(t - p) + 1, inner (t - p) 0 s (by omega) ?_⟩
    show I (rf_al t p ++ []) s
    rw [List.append_nil]; exact h
theorem rf_nest0 {σ : Type} (t : Nat) (I : List (Nat × Nat) → σ → Prop) (O : Nat → Nat → σ → Prop) (N : Nat → Nat → Nat → Nat → σ → Prop)
    (s : σ) (h : I [] s)
    (hx : ∀ f s, I (rf_al t t) s → O (f + 1) t s)
    (ho : ∀ f p s, p < t → (∃ m, N f m p 0 s) → O (f + 1) p s)
    (hy : ∀ f m p s, p < t → O f (p + 1) s → N f (m + 1) p (t - p) s)
    (hs : ∀ f m p k s, p < t → k < t - p → I (rf_al t p ++ rf_row p k) s → (∀ s', I (rf_al t p ++ rf_row p (k + 1)) s' → N f m p (k + 1) s') → N f (m + 1) p k s) :
    ∃ f, O f 0 s :=
  ⟨t + 1, rf_nest t I O N hx ho hy hs t 0 s (by omega) h⟩
