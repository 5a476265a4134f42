theorem rx_occ15 {post : Int32 → Prop} {a : Nat → Int32} {t r q s n : Nat} (hq : q + n ≤ 36) (hs : s + n ≤ 36) : ∀ d i : Nat, i + d = n → (rf_wd a (q + i) d = rf_wd a (s + i) d → post 1) → (¬ rf_wd a (q + i) d = rf_wd a (s + i) d → post 0) → wX_occursAt_15 post (nI q) (nI s) (nI n) (nI t) (nI r) a (d + 1) (nI i) := by
  intro d
  induction d with
  | zero =>
    intro i hi h1 h0
    exact pk_le n i (fun _ => h1 rfl) (fun h => by omega)
  | succ d ih =>
    intro i hi h1 h0
    refine pk_le n i (fun h => by omega) (fun _ => ⟨pk_in (q + i) 36 (by omega) (nI_add q i), pk_in (s + i) 36 (by omega) (nI_add s i), ?_⟩)
    rw [pk_cl (q + i) (nI_add q i), pk_cl (s + i) (nI_add s i)]
    by_cases hab : a (q + i) = a (s + i)
    · refine br_t hab (nm_r (nI_1 i) (ih (i + 1) (by omega) (fun e => h1 ?_) (fun ne => h0 (fun e => ne ?_))))
      · show a (q + i) :: rf_wd a (q + (i + 1)) d = a (s + i) :: rf_wd a (s + (i + 1)) d
        rw [hab, e]
      · exact (List.cons.inj (show a (q + i) :: rf_wd a (q + (i + 1)) d = a (s + i) :: rf_wd a (s + (i + 1)) d from e)).2
    · refine br_f hab (h0 (fun e => hab ?_))
      exact (List.cons.inj (show a (q + i) :: rf_wd a (q + (i + 1)) d = a (s + i) :: rf_wd a (s + (i + 1)) d from e)).1
theorem rx_occ {post : Int32 → Prop} {a : Nat → Int32} {t r q s n : Nat} (ht : t ≤ 24) (hq : q < t) (hs : s + n ≤ 36) (hp : post (rf_b (rf_oc a t (rf_wd a s n) q))) : wpX_occursAt post (nI t, nI r, a) (nI q) (nI s) (nI n) := by
  refine pk_le n (t - q) (fun h => ⟨n + 1, rx_occ15 (by omega) hs n 0 (by omega) (fun e => ?_) (fun ne => ?_)⟩) (fun h => ?_) rfl (pk_sub (by omega)) (by omega) (by omega)
  · rw [rf_b_t ((rf_oc_wd (a := a) (t := t) (s := s) (n := n) (q := q)).mpr ⟨by omega, e⟩)] at hp
    exact hp
  · rw [rf_b_f (fun z => ne ((rf_oc_wd (a := a) (t := t) (s := s) (n := n) (q := q)).mp z).2)] at hp
    exact hp
  · rw [rf_b_f (fun z => by have := (rf_oc_wd.mp z).1; omega)] at hp
    exact hp
theorem rx_cnt5 {post : Int32 → Prop} {a : Nat → Int32} {t r s n : Nat} (ht : t ≤ 24) (hs : s + n ≤ 36) (hp : post (nI (rf_ct a t (rf_wd a s n)))) : ∀ d q : Nat, q + d = t → wX_countOf_5 post (nI s) (nI n) (nI t) (nI r) a (d + 1) (nI (rf_cn (rf_oc a t (rf_wd a s n)) q)) (nI q) := by
  intro d
  induction d with
  | zero =>
    intro q hq
    have : q = t := by omega
    subst this
    exact pk_le q q (fun _ => hp) (fun h => by omega)
  | succ d ih =>
    intro q hq
    refine pk_le t q (fun h => by omega) (fun _ => rx_occ ht (by omega) hs (rf_b_if (fun h => ?_) (fun h => ?_)))
    · have := ih (q + 1) (by omega)
      rw [rf_cn_t h] at this
      exact nm_r (nI_1 _) (nm_r (nI_1 q) this)
    · have := ih (q + 1) (by omega)
      rw [rf_cn_f h] at this
      exact nm_r (nI_1 q) this
theorem rx_cnt {post : Int32 → Prop} {a : Nat → Int32} {t r s n : Nat} (ht : t ≤ 24) (hs : s + n ≤ 36) (hp : post (nI (rf_ct a t (rf_wd a s n)))) : wpX_countOf post (nI t, nI r, a) (nI s) (nI n) :=
  ⟨t + 1, rx_cnt5 ht hs hp t 0 (by omega)⟩
theorem rx_fp2 {post : Int32 → Prop} {a : Nat → Int32} {t r s n : Nat} (ht : t ≤ 24) (hs : s + n ≤ 36) : ∀ d q : Nat, q + d = t → post (rf_fd (rf_oc a t (rf_wd a s n)) q d) → wX_firstPlaceOf_2 post (nI s) (nI n) (nI t) (nI r) a (d + 1) (nI q) := by
  intro d
  induction d with
  | zero =>
    intro q hq hp
    exact pk_le t q (fun _ => hp) (fun h => by omega)
  | succ d ih =>
    intro q hq hp
    refine pk_le t q (fun h => by omega) (fun _ => rx_occ ht (by omega) hs (rf_b_if (fun h => ?_) (fun h => ?_)))
    · rw [rf_fd_t h] at hp
      exact hp
    · rw [rf_fd_f h] at hp
      exact nm_r (nI_1 q) (ih (q + 1) (by omega) hp)
theorem rx_fp {post : Int32 → Prop} {a : Nat → Int32} {t r s n : Nat} (ht : t ≤ 24) (hs : s + n ≤ 36) (hp : post (rf_fp a t (rf_wd a s n))) : wpX_firstPlaceOf post (nI t, nI r, a) (nI s) (nI n) :=
  ⟨t + 1, rx_fp2 ht hs t 0 (by omega) hp⟩
theorem rx_fs {post : Int32 → Prop} {a : Nat → Int32} {t r p n : Nat} (ht : t ≤ 24) (hs : p + n ≤ 36) (hp : post (rf_b (rf_fs a t (p, n)))) : wpX_isFirstOfItsWord post (nI t, nI r, a) (nI p) (nI n) := by
  refine rx_fp (post := fun r_1 => (r_1 = nI p → post 1) ∧ (¬ r_1 = nI p → post 0)) ht hs ?_
  by_cases h : rf_fp a t (rf_wd a p n) = nI p
  · rw [rf_b_t (rf_fs_iff.mpr h)] at hp
    exact br_t h hp
  · rw [rf_b_f (fun z => h (rf_fs_iff.mp z))] at hp
    exact br_f h hp
theorem rf_rt {f : Nat × Nat → Bool} {t p k : Nat} (h : f (p, k + 1) = true) : rf_kt f (rf_al t p ++ rf_row p (k + 1)) = rf_kt f (rf_al t p ++ rf_row p k) + 1 := by
  rw [rf_row_s, ← List.append_assoc, rf_kt_t h]
theorem rf_rf {f : Nat × Nat → Bool} {t p k : Nat} (h : ¬ f (p, k + 1) = true) : rf_kt f (rf_al t p ++ rf_row p (k + 1)) = rf_kt f (rf_al t p ++ rf_row p k) := by
  rw [rf_row_s, ← List.append_assoc, rf_kt_f h]
theorem rx_words {post : Int32 → Prop} {a : Nat → Int32} {t r : Nat} (ht : t ≤ 24) (hp : post (nI (rf_L a t).length)) : wpX_words post (nI t, nI r, a) := by
  refine rf_nest0 (σ := Nat) t (fun V s => s = rf_kt (rf_fs a t) V) (fun f p s => wX_words_4 post (nI t) (nI r) a f (nI s) (nI p)) (fun f m p k s => wX_words_14 post (wX_words_4 post (nI t) (nI r) a f) (nI p) (nI t) (nI r) a m (nI s) (nI (k + 1))) 0 rfl ?_ ?_ ?_ ?_
  · intro f s hs
    rw [rf_words] at hs
    subst hs
    exact pk_le t t (fun _ => hp) (fun h => by omega)
  · intro f p s hpt hm
    exact pk_le t p (fun h => by omega) (fun _ => hm)
  · intro f m p s hpt hO
    exact pk_lt (t - p) (t - p + 1) (fun _ => nm_r (nI_1 p) hO) (fun h => by omega) (pk_sub (by omega))
  · intro f m p k s hpt hk hI hn
    refine pk_lt (t - p) (k + 1) (fun h => by omega) (fun _ => rx_fs ht (by omega) (rf_b_if (fun h => ?_) (fun h => ?_))) (pk_sub (by omega))
    · exact nm_r (nI_1 s) (nm_r (nI_1 (k + 1)) (hn (s + 1) (by rw [hI, rf_rt h])))
    · exact nm_r (nI_1 (k + 1)) (hn s (by rw [hI, rf_rf h]))
theorem rx_lng26 {post J : Int32 → Prop} {a : Nat → Int32} {t r m l : Nat} (ht : t ≤ 24) (hm : m ≤ 24) (hl : l + 1 ≤ t) (hy : rf_Q a t m (l + 1) → post (nI (l + 1))) (hn : ¬ rf_Q a t m (l + 1) → J (nI l)) : ∀ d p : Nat, p + d = t - (l + 1) + 1 → (∀ q, q < p → ¬ m ≤ rf_ct a t (rf_wd a q (l + 1))) → wX_longest_26 post J (nI m) (nI (l + 1)) (nI t) (nI r) a (d + 1) (nI p) := by
  intro d
  induction d with
  | zero =>
    intro p hp hno
    refine pk_lt (t - (l + 1)) p (fun _ => nm_r (pk_m1 l) (hn ?_)) (fun h => by omega) (pk_sub (by omega))
    intro ⟨q, h1, h2⟩
    exact hno q (by omega) h2
  | succ d ih =>
    intro p hp hno
    refine pk_lt (t - (l + 1)) p (fun h => by omega) (fun _ => rx_cnt ht (by omega) ?_) (pk_sub (by omega))
    have hc := rf_ct_le a t (rf_wd a p (l + 1))
    refine pk_lt (rf_ct a t (rf_wd a p (l + 1))) m (fun h => nm_r (nI_1 p) (ih (p + 1) (by omega) (fun q hq => ?_))) (fun h => hy ⟨p, by omega, h⟩)
    by_cases z : q = p
    · subst z; omega
    · exact hno q (by omega)
theorem rx_lng19 {post : Int32 → Prop} {a : Nat → Int32} {t r m : Nat} (ht : t ≤ 24) (hm : m ≤ 24) (hp : ∀ x, rf_mx (rf_Q a t m) x → post (nI x)) : ∀ l : Nat, l ≤ t → (∀ n, l < n → ¬ rf_Q a t m n) → wX_longest_19 post (nI m) (nI t) (nI r) a (l + 1) (nI l) := by
  intro l
  induction l with
  | zero =>
    intro _ hno
    exact pk_lt 0 1 (fun _ => hp 0 ⟨Or.inl rfl, fun n hn hQ => absurd hQ (hno n hn)⟩) (fun h => by omega)
  | succ l ih =>
    intro hl hno
    refine pk_lt (l + 1) 1 (fun h => by omega) (fun _ => ⟨t - (l + 1) + 1 + 1, rx_lng26 ht hm hl (fun hQ => ?_) (fun hQ => ?_) (t - (l + 1) + 1) 0 (by omega) (fun q hq => by omega)⟩)
    · refine hp (l + 1) ⟨Or.inr ⟨by omega, hQ⟩, fun n hn hQn => ?_⟩
      by_cases z : l + 1 < n
      · exact absurd hQn (hno n z)
      · omega
    · refine ih (by omega) (fun n hn => ?_)
      by_cases z : n = l + 1
      · rw [z]; exact hQ
      · exact hno n (by omega)
theorem rf_Q_lt {a : Nat → Int32} {t m n : Nat} (h : t < n) : ¬ rf_Q a t m n := fun ⟨p, h1, _⟩ => by omega
theorem rx_lng {post : Int32 → Prop} {a : Nat → Int32} {t r m : Nat} (ht : t ≤ 24) (h1 : 1 ≤ m) (hm : m ≤ 24) (hp : ∀ x, rf_mx (rf_Q a t m) x → post (nI x)) : wpX_longest post (nI t, nI r, a) (nI m) :=
  pk_lt m 1 (fun h => by omega) (fun _ => pk_le m 24 (fun _ => ⟨t + 1, rx_lng19 ht hm hp t (Nat.le_refl t) (fun _ h => rf_Q_lt h)⟩) (fun h => by omega))
theorem rx_m34 {post : Int32 → Prop} {a : Nat → Int32} {t r p n c : Nat} (ht : t ≤ 24) (hc : c ≤ 24) (hpn : p + n ≤ t) (h1 : (t ≤ p + n ∨ rf_ct a t (rf_wd a p (n + 1)) < c) → post 1) (h0 : ¬ (t ≤ p + n ∨ rf_ct a t (rf_wd a p (n + 1)) < c) → post 0) : wX_isMaximalRepeat_34 post (nI p) (nI n) (nI c) (nI t) (nI r) a := by
  refine pk_le t (p + n) (fun h => h1 (Or.inl h)) (fun h => ?_) rfl (nI_add p n)
  rw [nI_1 n]
  refine rx_cnt ht (by omega) ?_
  have hc2 := rf_ct_le a t (rf_wd a p (n + 1))
  exact pk_le c (rf_ct a t (rf_wd a p (n + 1))) (fun g => h0 (by omega)) (fun g => h1 (Or.inr g))
theorem rx_max {post : Int32 → Prop} {a : Nat → Int32} {t r p n : Nat} (ht : t ≤ 24) (hpn : p + n ≤ t) (hp : post (rf_b (rf_xm a t (p, n)))) : wpX_isMaximalRepeat post (nI t, nI r, a) (nI p) (nI n) := by
  have e : rf_xm a t (p, n) = true ↔ (2 ≤ rf_ct a t (rf_wd a p n) ∧ ¬ (0 < p ∧ rf_ct a t (rf_wd a (p - 1) (n + 1)) = rf_ct a t (rf_wd a p n)) ∧ (t ≤ p + n ∨ rf_ct a t (rf_wd a p (n + 1)) < rf_ct a t (rf_wd a p n))) := by
    unfold rf_xm
    exact decide_eq_true_iff
  have y1 : rf_xm a t (p, n) = true → post 1 := fun h => by rw [rf_b_t h] at hp; exact hp
  have y0 : ¬ rf_xm a t (p, n) = true → post 0 := fun h => by rw [rf_b_f h] at hp; exact hp
  have hc := rf_ct_le a t (rf_wd a p n)
  refine rx_cnt ht (by omega) ?_
  refine pk_le 2 (rf_ct a t (rf_wd a p n)) (fun h2 => ?_) (fun h2 => y0 (fun z => by have := (e.mp z).1; omega))
  have last : ¬ (0 < p ∧ rf_ct a t (rf_wd a (p - 1) (n + 1)) = rf_ct a t (rf_wd a p n)) → wX_isMaximalRepeat_34 post (nI p) (nI n) (nI (rf_ct a t (rf_wd a p n))) (nI t) (nI r) a :=
    fun hl => rx_m34 ht (by omega) hpn (fun g => y1 (e.mpr ⟨h2, hl, g⟩)) (fun g => y0 (fun z => g (e.mp z).2.2))
  refine pk_le p 0 (fun h => last (fun z => by omega)) (fun h => ?_)
  obtain ⟨u, rfl⟩ : ∃ u, p = u + 1 := ⟨p - 1, by omega⟩
  rw [nI_pred u, nI_1 n]
  refine rx_cnt ht (by omega) ?_
  have hc2 := rf_ct_le a t (rf_wd a u (n + 1))
  exact pk_eq (rf_ct a t (rf_wd a u (n + 1))) (rf_ct a t (rf_wd a (u + 1) n)) (fun g => y0 (fun z => (e.mp z).2.1 ⟨h, g⟩)) (fun g => last (fun z => g z.2))
theorem rx_reps {post : Int32 → Prop} {a : Nat → Int32} {t r : Nat} (ht : t ≤ 24) (hp : post (nI (rf_kt (fun e => rf_fs a t e && rf_xm a t e) (rf_al t t)))) : wpX_repeats post (nI t, nI r, a) := by
  refine rf_nest0 (σ := Nat) t (fun V s => s = rf_kt (fun e => rf_fs a t e && rf_xm a t e) V) (fun f p s => wX_repeats_4 post (nI t) (nI r) a f (nI s) (nI p)) (fun f m p k s => wX_repeats_14 post (wX_repeats_4 post (nI t) (nI r) a f) (nI p) (nI t) (nI r) a m (nI s) (nI (k + 1))) 0 rfl ?_ ?_ ?_ ?_
  · intro f s hs
    subst hs
    exact pk_le t t (fun _ => hp) (fun h => by omega)
  · intro f p s hpt hm
    exact pk_le t p (fun h => by omega) (fun _ => hm)
  · intro f m p s hpt hO
    exact pk_lt (t - p) (t - p + 1) (fun _ => nm_r (nI_1 p) hO) (fun h => by omega) (pk_sub (by omega))
  · intro f m p k s hpt hk hI hn
    have no : ¬ (rf_fs a t (p, k + 1) && rf_xm a t (p, k + 1)) = true → s = rf_kt (fun e => rf_fs a t e && rf_xm a t e) (rf_al t p ++ rf_row p (k + 1)) := fun h => by rw [hI, rf_rf (f := fun e => rf_fs a t e && rf_xm a t e) h]
    refine pk_lt (t - p) (k + 1) (fun h => by omega) (fun _ => rx_fs ht (by omega) (rf_b_if (fun h => ?_) (fun h => ?_))) (pk_sub (by omega))
    · refine rx_max ht (by omega) (rf_b_if (fun g => ?_) (fun g => ?_))
      · exact nm_r (nI_1 s) (nm_r (nI_1 (k + 1)) (hn (s + 1) (by rw [hI, rf_rt (f := fun e => rf_fs a t e && rf_xm a t e) (Bool.and_eq_true_iff.mpr ⟨h, g⟩)])))
      · exact nm_r (nI_1 (k + 1)) (hn s (no (fun z => g (Bool.and_eq_true_iff.mp z).2)))
    · exact nm_r (nI_1 (k + 1)) (hn s (no (fun z => h (Bool.and_eq_true_iff.mp z).1)))
