theorem rx_cb17 {post : Int32 → Prop} {a : Nat → Int32} {t r s n b m l : Nat} (hs : s + n ≤ 36) (hb : b + m ≤ 36) (hln : l ≤ n) (hlm : l ≤ m) (hl : l = n ∨ l = m) : ∀ d i : Nat, i + d = l → post (rf_b (rf_lx (rf_wd a (s + i) (n - i)) (rf_wd a (b + i) (m - i)))) → wX_comesBefore_17 post (nI s) (nI n) (nI b) (nI m) (nI l) (nI t) (nI r) a (d + 1) (nI i) := by
  intro d
  induction d with
  | zero =>
    intro i hi hp
    have hil : i = l := by omega
    subst hil
    refine pk_le i i (fun _ => pk_le m n (fun h => ?_) (fun h => ?_)) (fun h => by omega)
    · have e : m - i = 0 := by omega
      rw [e, rf_wd_0, rf_lx_r, rf_b_f (by decide)] at hp
      exact hp
    · have e : n - i = 0 := by omega
      have e2 : m - i = (m - i - 1) + 1 := by omega
      rw [e, rf_wd_0, e2, rf_wd_s, rf_lx_l, rf_b_t rfl] at hp
      exact hp
  | succ d ih =>
    intro i hi hp
    have e1 : n - i = (n - (i + 1)) + 1 := by omega
    have e2 : m - i = (m - (i + 1)) + 1 := by omega
    rw [e1, e2, rf_wd_s, rf_wd_s] at hp
    refine pk_le l i (fun h => by omega) (fun _ => ⟨pk_in (s + i) 36 (by omega) (nI_add s i), pk_in (b + i) 36 (by omega) (nI_add b i), ?_⟩)
    rw [pk_cl (s + i) (nI_add s i), pk_cl (b + i) (nI_add b i)]
    by_cases hab : a (s + i) = a (b + i)
    · rw [rf_lx_e hab] at hp
      exact br_t hab (nm_r (nI_1 i) (ih (i + 1) (by omega) hp))
    · rw [rf_lx_n hab] at hp
      refine br_f hab ⟨pk_in (s + i) 36 (by omega) (nI_add s i), pk_in (b + i) 36 (by omega) (nI_add b i), ?_⟩
      by_cases g : a (s + i) < a (b + i)
      · rw [rf_b_t (decide_eq_true_iff.mpr g)] at hp
        exact br_f (fun z => Int32.not_lt.mpr z g) hp
      · rw [rf_b_f (fun z => g (decide_eq_true_iff.mp z))] at hp
        exact br_t (Int32.not_lt.mp g) hp
theorem rx_cb {post : Int32 → Prop} {a : Nat → Int32} {t r s n b m : Nat} (hs : s + n ≤ 36) (hb : b + m ≤ 36) (hp : post (rf_b (rf_lx (rf_wd a s n) (rf_wd a b m)))) : wpX_comesBefore post (nI t, nI r, a) (nI s) (nI n) (nI b) (nI m) :=
  pk_le m n (fun h => ⟨m + 1, rx_cb17 hs hb h (Nat.le_refl m) (Or.inr rfl) m 0 (by omega) hp⟩) (fun h => ⟨n + 1, rx_cb17 hs hb (Nat.le_refl n) (Nat.le_of_lt h) (Or.inl rfl) n 0 (by omega) hp⟩)
/-- the code of a pair -/
def rf_cd (e : Nat × Nat) : Nat := 25 * e.1 + e.2
theorem rf_bs_bd {a : Nat → Int32} {c : List Int32} {t : Nat} {V : List (Nat × Nat)} (h : ∀ e, e ∈ V → 1 ≤ e.2 ∧ e.1 + e.2 ≤ t) : (rf_bs a c V).1 + (rf_bs a c V).2 ≤ t := by
  have k := (rf_K_bs (a := a) (c := c) (V := V) (fun e he => (h e he).1)).1
  rcases k with k | k
  · rw [k]; exact Nat.zero_le t
  · exact (h _ k.1).2
theorem rf_V_bd {t p k : Nat} (hp : p < t) (hk : k ≤ t - p) : ∀ e, e ∈ rf_al t p ++ rf_row p k → 1 ≤ e.2 ∧ e.1 + e.2 ≤ t := by
  intro e he
  rw [List.mem_append, rf_al_mem, rf_row_mem] at he
  omega
theorem rf_al_bd {t : Nat} : ∀ e, e ∈ rf_al t t → 1 ≤ e.2 ∧ e.1 + e.2 ≤ t := by
  intro e he
  rw [rf_al_mem] at he
  omega
theorem rf_L_bd {a : Nat → Int32} {t : Nat} : ∀ e, e ∈ rf_L a t → 1 ≤ e.2 ∧ e.1 + e.2 ≤ t := by
  intro e he
  rw [rf_L_mem] at he
  omega
theorem rf_st_t {a : Nat → Int32} {c : List Int32} {b e : Nat × Nat} (h1 : rf_lx c (rf_wd a e.1 e.2) = true) (h2 : b.2 = 0 ∨ rf_lx (rf_wd a e.1 e.2) (rf_wd a b.1 b.2) = true) : rf_st a c b e = e := if_pos ⟨h1, h2⟩
theorem rf_st_f1 {a : Nat → Int32} {c : List Int32} {b e : Nat × Nat} (h1 : ¬ rf_lx c (rf_wd a e.1 e.2) = true) : rf_st a c b e = b := if_neg (fun z => h1 z.1)
theorem rf_st_f2 {a : Nat → Int32} {c : List Int32} {b e : Nat × Nat} (h2 : ¬ b.2 = 0) (h3 : ¬ rf_lx (rf_wd a e.1 e.2) (rf_wd a b.1 b.2) = true) : rf_st a c b e = b := if_neg (fun z => z.2.elim h2 h3)
theorem rf_bs_row (a : Nat → Int32) (c : List Int32) (t p k : Nat) : rf_bs a c (rf_al t p ++ rf_row p (k + 1)) = rf_st a c (rf_bs a c (rf_al t p ++ rf_row p k)) (p, k + 1) := by
  rw [rf_row_s, ← List.append_assoc, rf_bs_app]
theorem rx_wa {post : Int32 → Prop} {a : Nat → Int32} {t r s n : Nat} (ht : t ≤ 24) (hs : s + n ≤ 36) (hp : post (nI (rf_cd (rf_bs a (rf_wd a s n) (rf_al t t))))) : wpX_wordAfter post (nI t, nI r, a) (nI s) (nI n) := by
  refine rf_nest0 (σ := Nat × Nat) t (fun V b => b = rf_bs a (rf_wd a s n) V) (fun f p b => wX_wordAfter_8 post (nI s) (nI n) (nI t) (nI r) a f (nI b.1) (nI b.2) (nI p)) (fun f m p k b => wX_wordAfter_20 post (wX_wordAfter_8 post (nI s) (nI n) (nI t) (nI r) a f) (nI s) (nI n) (nI p) (nI t) (nI r) a m (nI b.1) (nI b.2) (nI (k + 1))) (0, 0) rfl ?_ ?_ ?_ ?_
  · intro f b hb
    subst hb
    refine pk_le t t (fun _ => ?_) (fun h => by omega)
    show post (nI 25 * nI _ + nI _)
    rw [pk_mul, nI_add]
    exact hp
  · intro f p b hpt hm
    exact pk_le t p (fun h => by omega) (fun _ => hm)
  · intro f m p b hpt hO
    exact pk_lt (t - p) (t - p + 1) (fun _ => nm_r (nI_1 p) hO) (fun h => by omega) (pk_sub (by omega))
  · intro f m p k b hpt hk hI hn
    have hbd : b.1 + b.2 ≤ t := by
      rw [hI]; exact rf_bs_bd (rf_V_bd hpt (by omega))
    refine pk_lt (t - p) (k + 1) (fun h => by omega) (fun _ => rx_cb hs (by omega) (rf_b_if (fun h => ?_) (fun h => ?_))) (pk_sub (by omega))
    · refine pk_eq b.2 0 (fun h0 => ?_) (fun h0 => ?_)
      · exact nm_r (nI_1 (k + 1)) (hn (p, k + 1) (by rw [rf_bs_row, ← hI, rf_st_t h (Or.inl h0)]))
      · refine rx_cb (by omega) (by omega) (rf_b_if (fun g => ?_) (fun g => ?_))
        · exact nm_r (nI_1 (k + 1)) (hn (p, k + 1) (by rw [rf_bs_row, ← hI, rf_st_t h (Or.inr g)]))
        · exact nm_r (nI_1 (k + 1)) (hn b (by rw [rf_bs_row, ← hI, rf_st_f2 h0 g]))
    · exact nm_r (nI_1 (k + 1)) (hn b (by rw [rf_bs_row, ← hI, rf_st_f1 h]))
theorem rf_it_bd {a : Nat → Int32} {t : Nat} (i : Nat) : (rf_it a t i).1 + (rf_it a t i).2 ≤ t := by
  cases i with
  | zero => exact Nat.zero_le t
  | succ i => rw [rf_it_s]; exact rf_bs_bd rf_L_bd
theorem rx_w19 {post : Int32 → Prop} {a : Nat → Int32} {t r k : Nat} (ht : t ≤ 24) (hk : k < 300) (hp : post (nI (rf_cd (rf_it a t (k + 1))))) : ∀ d i : Nat, i + d = k + 1 → wX_word_19 post (nI k) (nI t) (nI r) a (d + 1) (nI (rf_cd (rf_it a t i))) (nI i) := by
  intro d
  induction d with
  | zero =>
    intro i hi
    have : i = k + 1 := by omega
    subst this
    exact pk_lt k (k + 1) (fun _ => hp) (fun h => by omega)
  | succ d ih =>
    intro i hi
    have hb := rf_it_bd (a := a) (t := t) i
    have h1 : nI (rf_cd (rf_it a t i)) / 25 = nI (rf_it a t i).1 := by
      have := pk_div (a := rf_cd (rf_it a t i)) (d := 25) (by unfold rf_cd; omega) (by omega) (by omega)
      rw [show rf_cd (rf_it a t i) / 25 = (rf_it a t i).1 by unfold rf_cd; omega] at this
      exact this
    have h2 : nI (rf_cd (rf_it a t i)) - nI (rf_cd (rf_it a t i)) / 25 * 25 = nI (rf_it a t i).2 := by
      have := pk_rem (a := rf_cd (rf_it a t i)) (d := 25) (by unfold rf_cd; omega) (by omega) (by omega)
      rw [show rf_cd (rf_it a t i) % 25 = (rf_it a t i).2 by unfold rf_cd; omega] at this
      exact this
    refine pk_lt k i (fun h => by omega) (fun _ => ⟨by decide, by decide, ?_⟩)
    rw [h2, h1]
    refine rx_wa ht (by omega) ?_
    have := ih (i + 1) (by omega)
    rw [rf_it_s, ← rf_bs_same ht] at this
    exact nm_r (nI_1 i) this
theorem rx_word {post : Int32 → Prop} {a : Nat → Int32} {t r k : Nat} (ht : t ≤ 24) (hk : k < 2 ^ 31) (h1 : k < (rf_L a t).length → post (nI (rf_cd (rf_it a t (k + 1))))) (h0 : (rf_L a t).length ≤ k → post (-3)) : wpX_word post (nI t, nI r, a) (nI k) := by
  refine br_f (nI_pos hk) (rx_words ht ?_)
  have hL := rf_L_300 (a := a) ht
  exact pk_lt k (rf_L a t).length (fun h => ⟨k + 1 + 1, rx_w19 ht (by omega) (h1 h) (k + 1) 0 (by omega)⟩) h0
theorem rx_rank {post : Int32 → Prop} {a : Nat → Int32} {t r : Nat} (ht : t ≤ 24) (hr : r ≤ 12) (h0 : r = 0 → post (-3)) (h1 : r ≠ 0 → post (nI (rf_kt (fun e => rf_lx (rf_wd a e.1 e.2) (rf_wd a 24 r) && rf_fs a t e) (rf_al t t)))) : wpX_rank post (nI t, nI r, a) := by
  refine pk_eq r 0 h0 (fun hne => ?_)
  have hp := h1 hne
  refine rf_nest0 (σ := Nat) t (fun V s => s = rf_kt (fun e => rf_lx (rf_wd a e.1 e.2) (rf_wd a 24 r) && rf_fs a t e) V) (fun f p s => wX_rank_14 post (nI t) (nI r) a f (nI s) (nI p)) (fun f m p k s => wX_rank_24 post (wX_rank_14 post (nI t) (nI r) a f) (nI p) (nI t) (nI r) a m (nI s) (nI (k + 1))) 0 rfl ?_ ?_ ?_ ?_
  · intro f s hs
    subst hs
    exact pk_le t t (fun _ => hp) (fun h => by omega)
  · intro f p s hpt hm
    exact pk_le t p (fun h => by omega) (fun _ => hm)
  · intro f m p s hpt hO
    exact pk_lt (t - p) (t - p + 1) (fun _ => nm_r (nI_1 p) hO) (fun h => by omega) (pk_sub (by omega))
  · intro f m p k s hpt hk hI hn
    have no : ¬ (rf_lx (rf_wd a p (k + 1)) (rf_wd a 24 r) && rf_fs a t (p, k + 1)) = true → s = rf_kt (fun e => rf_lx (rf_wd a e.1 e.2) (rf_wd a 24 r) && rf_fs a t e) (rf_al t p ++ rf_row p (k + 1)) := fun h => by rw [hI, rf_rf (f := fun e => rf_lx (rf_wd a e.1 e.2) (rf_wd a 24 r) && rf_fs a t e) h]
    refine pk_lt (t - p) (k + 1) (fun h => by omega) (fun _ => rx_cb (s := p) (n := k + 1) (b := 24) (m := r) (by omega) (by omega) (rf_b_if (fun h => ?_) (fun h => ?_))) (pk_sub (by omega))
    · refine rx_fs ht (by omega) (rf_b_if (fun g => ?_) (fun g => ?_))
      · exact nm_r (nI_1 s) (nm_r (nI_1 (k + 1)) (hn (s + 1) (by rw [hI, rf_rt (f := fun e => rf_lx (rf_wd a e.1 e.2) (rf_wd a 24 r) && rf_fs a t e) (Bool.and_eq_true_iff.mpr ⟨h, g⟩)])))
      · exact nm_r (nI_1 (k + 1)) (hn s (no (fun z => g (Bool.and_eq_true_iff.mp z).2)))
    · exact nm_r (nI_1 (k + 1)) (hn s (no (fun z => h (Bool.and_eq_true_iff.mp z).1)))
theorem rx_com12 {post J : Int32 → Prop} {a : Nat → Int32} {t r l : Nat} (ht : t ≤ 24) (hr : r ≤ 12) (hl : l + 1 ≤ r) (hy : rf_C a t r (l + 1) → post (nI (l + 1))) (hn : ¬ rf_C a t r (l + 1) → J (nI l)) : ∀ d p : Nat, p + d = r - (l + 1) + 1 → (∀ q, q < p → ¬ 0 < rf_ct a t (rf_wd a (24 + q) (l + 1))) → wX_common_12 post J (nI (l + 1)) (nI t) (nI r) a (d + 1) (nI p) := by
  intro d
  induction d with
  | zero =>
    intro p hp hno
    refine pk_lt (r - (l + 1)) p (fun _ => nm_r (pk_m1 l) (hn ?_)) (fun h => by omega) (pk_sub (by omega))
    intro ⟨q, h1, h2⟩
    exact hno q (by omega) h2
  | succ d ih =>
    intro p hp hno
    refine pk_lt (r - (l + 1)) p (fun h => by omega) (fun _ => ?_) (pk_sub (by omega))
    rw [show (24 : Int32) + nI p = nI (24 + p) from nI_add 24 p]
    refine rx_fp ht (by omega) ?_
    by_cases g : rf_fp a t (rf_wd a (24 + p) (l + 1)) = -3
    · refine br_t g (nm_r (nI_1 p) (ih (p + 1) (by omega) (fun q hq => ?_)))
      by_cases z : q = p
      · subst z; exact fun y => rf_fp_ct ht |>.mpr y g
      · exact hno q (by omega)
    · exact br_f g (hy ⟨p, by omega, (rf_fp_ct ht).mp g⟩)
theorem rx_com5 {post : Int32 → Prop} {a : Nat → Int32} {t r : Nat} (ht : t ≤ 24) (hr : r ≤ 12) (hp : ∀ x, rf_mx (rf_C a t r) x → post (nI x)) : ∀ l : Nat, l ≤ r → (∀ n, l < n → ¬ rf_C a t r n) → wX_common_5 post (nI t) (nI r) a (l + 1) (nI l) := by
  intro l
  induction l with
  | zero =>
    intro _ hno
    exact pk_lt 0 1 (fun _ => hp 0 ⟨Or.inl rfl, fun n hn hQ => absurd hQ (hno n hn)⟩) (fun h => by omega)
  | succ l ih =>
    intro hl hno
    refine pk_lt (l + 1) 1 (fun h => by omega) (fun _ => ⟨r - (l + 1) + 1 + 1, rx_com12 ht hr hl (fun hQ => ?_) (fun hQ => ?_) (r - (l + 1) + 1) 0 (by omega) (fun q hq => by omega)⟩)
    · refine hp (l + 1) ⟨Or.inr ⟨by omega, hQ⟩, fun n hn hQn => ?_⟩
      by_cases z : l + 1 < n
      · exact absurd hQn (hno n z)
      · omega
    · refine ih (by omega) (fun n hn => ?_)
      by_cases z : n = l + 1
      · rw [z]; exact hQ
      · exact hno n (by omega)
theorem rf_C_lt {a : Nat → Int32} {t r n : Nat} (h : r < n) : ¬ rf_C a t r n := fun ⟨p, h1, _⟩ => by omega
theorem rx_com {post : Int32 → Prop} {a : Nat → Int32} {t r : Nat} (ht : t ≤ 24) (hr : r ≤ 12) (hp : ∀ x, rf_mx (rf_C a t r) x → post (nI x)) : wpX_common post (nI t, nI r, a) :=
  ⟨r + 1, rx_com5 ht hr hp r (Nat.le_refl r) (fun _ h => rf_C_lt h)⟩
/-- the word of length n at p stands once -/
def rf_u1 (a : Nat → Int32) (t p n : Nat) : Bool := decide (rf_ct a t (rf_wd a p n) = 1)
theorem rf_u1_iff {a : Nat → Int32} {t p n : Nat} : rf_u1 a t p n = true ↔ rf_ct a t (rf_wd a p n) = 1 := by
  unfold rf_u1
  exact decide_eq_true_iff
theorem rx_un17 {post : Int32 → Prop} {a : Nat → Int32} {t r p : Nat} (ht : t ≤ 24) (hpt : p < t) : ∀ d n : Nat, n + d = t - p + 1 → post (rf_fd (rf_u1 a t p) n d) → wX_unique_17 post (nI p) (nI t) (nI r) a (d + 1) (nI n) := by
  intro d
  induction d with
  | zero =>
    intro n hn hp
    exact pk_lt (t - p) n (fun _ => hp) (fun h => by omega) (pk_sub (by omega))
  | succ d ih =>
    intro n hn hp
    have hc := rf_ct_le a t (rf_wd a p n)
    refine pk_lt (t - p) n (fun h => by omega) (fun _ => rx_cnt ht (by omega) ?_) (pk_sub (by omega))
    refine pk_eq (rf_ct a t (rf_wd a p n)) 1 (fun h => ?_) (fun h => ?_)
    · rw [rf_fd_t (rf_u1_iff.mpr h)] at hp
      exact hp
    · rw [rf_fd_f (fun z => h (rf_u1_iff.mp z))] at hp
      exact nm_r (nI_1 n) (ih (n + 1) (by omega) hp)
