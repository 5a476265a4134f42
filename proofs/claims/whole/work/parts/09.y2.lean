theorem ry_wb0 {post : Int32 → Prop} {J : Int32 → Int32 → Prop} {a lp ll : Nat → Int32} {c kn side z lt : Int32} {t r i s n q k : Nat} (ht : t ≤ 24) (hi : i < 300) (hlp : lp i = nI s) (hs : s + n ≤ 36) (hq : q + n ≤ t) (hJ : J (nI k) (nI (q + 1))) : wY_withBeside_63 post J (nI i) lt side (nI k) (nI n) (nI q) z 0 (nI t) (nI r) c kn a lp ll := by
  unfold wY_withBeside_63
  refine ⟨pk_in i 300 hi, ?_⟩
  rw [nI_clamp (n := i) (by omega), hlp]
  refine ry_same ht hq hs (rf_b_if (fun _ => br_t rfl (nm_r (nI_1 q) hJ)) (fun _ => nm_r (nI_1 q) hJ))
theorem ry_wb1 {post : Int32 → Prop} {J : Int32 → Int32 → Prop} {a lp ll : Nat → Int32} {c kn side lt : Int32} {t r i s n q k j : Nat} (ht : t ≤ 24) (hi : i < 300) (hlp : lp i = nI s) (hs : s + n ≤ 36) (hq : q + n ≤ t) (hj : j < 36) (h1 : rf_oc a t (rf_wd a s n) q = true → a j = lt → J (nI (k + 1)) (nI (q + 1))) (h0 : ¬ (rf_oc a t (rf_wd a s n) q = true ∧ a j = lt) → J (nI k) (nI (q + 1))) : wY_withBeside_63 post J (nI i) lt side (nI k) (nI n) (nI q) (nI j) 1 (nI t) (nI r) c kn a lp ll := by
  unfold wY_withBeside_63
  refine ⟨pk_in i 300 hi, ?_⟩
  rw [nI_clamp (n := i) (by omega), hlp]
  refine ry_same ht hq hs (rf_b_if (fun h => br_f (by decide) ⟨pk_in j 36 hj, ?_⟩) (fun h => nm_r (nI_1 q) (h0 (fun z => h z.1))))
  rw [nI_clamp (n := j) (by omega)]
  by_cases g : a j = lt
  · exact br_t g (nm_r (nI_1 k) (nm_r (nI_1 q) (h1 h g)))
  · exact br_f g (nm_r (nI_1 q) (h0 (fun z => g z.2)))
theorem ry_wbL {post : Int32 → Prop} {a lp ll : Nat → Int32} {c kn lt : Int32} {t r i s n : Nat} (ht : t ≤ 24) (hi : i < 300) (hlp : lp i = nI s) (hn : 1 ≤ n) (hs : s + n ≤ 36) (hp : post (nI (rf_cn (rf_wl a t (rf_wd a s n) lt) t))) : ∀ d q : Nat, q + d = t → wY_withBeside_14 post (nI i) lt (-1) (nI n) (nI t) (nI r) c kn a lp ll (d + 1) (nI (rf_cn (rf_wl a t (rf_wd a s n) lt) q)) (nI q) := by
  have fin : ∀ q, q ≤ t → t < q + n → post (nI (rf_cn (rf_wl a t (rf_wd a s n) lt) q)) := by
    intro q hq hf
    have : rf_cn (rf_wl a t (rf_wd a s n) lt) t = rf_cn (rf_wl a t (rf_wd a s n) lt) q := rf_cn_up t hq (fun j h1 h2 z => rf_oc_no (by omega) (rf_wl_iff.mp z).1)
    rw [← this]
    exact hp
  intro d
  induction d with
  | zero =>
    intro q hq
    exact pk_lt t (q + n) (fun h => fin q (by omega) h) (fun h => by omega) rfl (nI_add q n)
  | succ d ih =>
    intro q hq
    have i1 := ih (q + 1) (by omega)
    refine pk_lt t (q + n) (fun h => fin q (by omega) h) (fun h0 => br_f (by decide) ?_) rfl (nI_add q n)
    by_cases hq0 : q = 0
    · subst hq0
      rw [rf_cn_f (fun z => by have := (rf_wl_iff.mp z).2.1; omega)] at i1
      exact br_t (by decide) (ry_wb0 ht hi hlp hs h0 i1)
    · obtain ⟨j, rfl⟩ : ∃ j, q = j + 1 := ⟨q - 1, by omega⟩
      rw [nI_pred j]
      refine br_f (nI_pos (by omega)) (pk_le t j (fun h => by omega) (fun _ => ry_wb1 ht hi hlp hs h0 (by omega) (fun g1 g2 => ?_) (fun g => ?_)))
      · rw [rf_cn_t (rf_wl_iff.mpr ⟨g1, by omega, g2⟩)] at i1
        exact i1
      · rw [rf_cn_f (fun z => g ⟨(rf_wl_iff.mp z).1, (rf_wl_iff.mp z).2.2⟩)] at i1
        exact i1
theorem ry_wbR {post : Int32 → Prop} {a lp ll : Nat → Int32} {c kn lt : Int32} {t r i s n : Nat} (ht : t ≤ 24) (hi : i < 300) (hlp : lp i = nI s) (hn : 1 ≤ n) (hs : s + n ≤ 36) (hp : post (nI (rf_cn (rf_wr a t (rf_wd a s n) lt) t))) : ∀ d q : Nat, q + d = t → wY_withBeside_14 post (nI i) lt 1 (nI n) (nI t) (nI r) c kn a lp ll (d + 1) (nI (rf_cn (rf_wr a t (rf_wd a s n) lt) q)) (nI q) := by
  have fin : ∀ q, q ≤ t → t < q + n → post (nI (rf_cn (rf_wr a t (rf_wd a s n) lt) q)) := by
    intro q hq hf
    have : rf_cn (rf_wr a t (rf_wd a s n) lt) t = rf_cn (rf_wr a t (rf_wd a s n) lt) q := rf_cn_up t hq (fun j h1 h2 z => rf_oc_no (by omega) (rf_wr_iff.mp z).1)
    rw [← this]
    exact hp
  intro d
  induction d with
  | zero =>
    intro q hq
    exact pk_lt t (q + n) (fun h => fin q (by omega) h) (fun h => by omega) rfl (nI_add q n)
  | succ d ih =>
    intro q hq
    have i1 := ih (q + 1) (by omega)
    refine pk_lt t (q + n) (fun h => fin q (by omega) h) (fun h0 => br_t (by decide) ?_) rfl (nI_add q n)
    rw [nI_add q n]
    refine br_f (nI_pos (by omega)) (pk_le t (q + n) (fun h => ?_) (fun h => ry_wb1 ht hi hlp hs h0 (by omega) (fun g1 g2 => ?_) (fun g => ?_)))
    · rw [rf_cn_f (fun z => by have := (rf_wr_iff.mp z).2.1; rw [rf_wd_len] at this; omega)] at i1
      exact ry_wb0 ht hi hlp hs h0 i1
    · rw [rf_cn_t (rf_wr_iff.mpr ⟨g1, by rw [rf_wd_len]; omega, by rw [rf_wd_len]; exact g2⟩)] at i1
      exact i1
    · rw [rf_cn_f (fun z => g ⟨(rf_wr_iff.mp z).1, by have := (rf_wr_iff.mp z).2.2; rw [rf_wd_len] at this; exact this⟩)] at i1
      exact i1
theorem ry_max26 {post : Int32 → Prop} {a lp ll : Nat → Int32} {c kn : Int32} {t r i s n k : Nat} (ht : t ≤ 24) (hi : i < 300) (hk : k ≤ 24) (hlp : lp i = nI s) (hll : ll i = nI n) (hn : 1 ≤ n) (hs : s + n ≤ 36)
    (y1 : (∀ l, l < 4 → rf_cn (rf_wl a t (rf_wd a s n) (nI l)) t ≠ k ∧ rf_cn (rf_wr a t (rf_wd a s n) (nI l)) t ≠ k) → post 1)
    (y0 : ¬ (∀ l, l < 4 → rf_cn (rf_wl a t (rf_wd a s n) (nI l)) t ≠ k ∧ rf_cn (rf_wr a t (rf_wd a s n) (nI l)) t ≠ k) → post 0) :
    ∀ d l : Nat, l + d = 4 → (∀ j, j < l → rf_cn (rf_wl a t (rf_wd a s n) (nI j)) t ≠ k ∧ rf_cn (rf_wr a t (rf_wd a s n) (nI j)) t ≠ k) → wY_maximal_26 post (nI i) (nI k) (nI t) (nI r) c kn a lp ll (d + 1) (nI l) := by
  intro d
  induction d with
  | zero =>
    intro l hl h
    have : l = 4 := by omega
    subst this
    exact pk_le 4 4 (fun _ => y1 h) (fun h => by omega)
  | succ d ih =>
    intro l hl h
    have b1 := rf_cn_le (rf_wl a t (rf_wd a s n) (nI l)) t
    have b2 := rf_cn_le (rf_wr a t (rf_wd a s n) (nI l)) t
    refine pk_le 4 l (fun h => by omega) (fun _ => ⟨pk_in i 300 hi, ?_⟩)
    rw [nI_clamp (n := i) (by omega), hll]
    refine nm_e ⟨t + 1, ry_wbL ht hi hlp hn hs ?_ t 0 (by omega)⟩
    refine pk_eq (rf_cn (rf_wl a t (rf_wd a s n) (nI l)) t) k (fun g => y0 (fun z => (z l (by omega)).1 g)) (fun g => ⟨pk_in i 300 hi, ?_⟩)
    rw [nI_clamp (n := i) (by omega), hll]
    refine nm_e ⟨t + 1, ry_wbR ht hi hlp hn hs ?_ t 0 (by omega)⟩
    refine pk_eq (rf_cn (rf_wr a t (rf_wd a s n) (nI l)) t) k (fun g2 => y0 (fun z => (z l (by omega)).2 g2)) (fun g2 => nm_r (nI_1 l) (ih (l + 1) (by omega) (fun j hj => ?_)))
    by_cases z : j = l
    · subst z; exact ⟨g, g2⟩
    · exact h j (by omega)
theorem ry_max {post : Int32 → Prop} {a lp ll : Nat → Int32} {c kn : Int32} {t r i : Nat} {e : Nat × Nat} (ht : t ≤ 24) (hi : i < 300) (hlp : lp i = nI e.1) (hll : ll i = nI e.2) (hn : 1 ≤ e.2) (hs : e.1 + e.2 ≤ t) (hp : post (rf_b (rf_ym a t e))) : wpY_maximal post (nI t, nI r, c, kn, a, lp, ll) (nI i) := by
  have y1 : rf_ym a t e = true → post 1 := fun h => by rw [rf_b_t h] at hp; exact hp
  have y0 : ¬ rf_ym a t e = true → post 0 := fun h => by rw [rf_b_f h] at hp; exact hp
  have hc := rf_ct_le a t (rf_wd a e.1 e.2)
  refine ⟨pk_in i 300 hi, pk_in i 300 hi, ?_⟩
  rw [nI_clamp (n := i) (by omega), hlp, hll]
  refine ry_cnt ht hn (by omega) ?_
  refine pk_le 2 (rf_ct a t (rf_wd a e.1 e.2)) (fun h => ⟨4 + 1, ?_⟩) (fun h => y0 (fun z => by have := (rf_ym_iff.mp z).1; omega))
  exact ry_max26 ht hi (by omega) hlp hll hn (by omega) (fun g => y1 (rf_ym_iff.mpr ⟨h, g⟩)) (fun g => y0 (fun z => g (rf_ym_iff.mp z).2)) 4 0 (by omega) (fun j hj => by omega)
theorem ry_rep8 {post : Int32 → SY → Prop} {a lp ll : Nat → Int32} {kn : Int32} {t r : Nat} (ht : t ≤ 24) (hH : rf_H lp ll (rf_L a t)) (hp : post (nI (rf_kt (rf_ym a t) (rf_L a t))) (nI t, nI r, nI (rf_L a t).length, kn, a, lp, ll)) : ∀ (V2 V1 : List (Nat × Nat)), rf_L a t = V1 ++ V2 → wY_repeats_8 post (nI t) (nI r) (nI (rf_L a t).length) kn a lp ll (V2.length + 1) (nI (rf_kt (rf_ym a t) V1)) (nI V1.length) := by
  intro V2
  induction V2 with
  | nil =>
    intro V1 hL
    rw [List.append_nil] at hL
    have h3 := rf_L_300 (a := a) ht
    have hlen : V1.length = (rf_L a t).length := by rw [hL]
    refine pk_le (rf_L a t).length V1.length (fun _ => ?_) (fun h => by omega)
    rw [hL] at hp ⊢
    exact hp
  | cons e V2 ih =>
    intro V1 hL
    obtain ⟨l1, l2, l3, l4, l5⟩ := rf_Lat ht hH hL
    have hL2 : rf_L a t = (V1 ++ [e]) ++ V2 := by rw [hL, rf_mid]
    have nxt := ih (V1 ++ [e]) hL2
    rw [rf_len1] at nxt
    refine pk_le (rf_L a t).length V1.length (fun h => by omega) (fun _ => ry_max ht (by omega) l1 l2 l3.1 l3.2 (rf_b_if (fun g => ?_) (fun g => ?_)))
    · rw [rf_kt_t g] at nxt
      exact nm_r (nI_1 _) (nm_r (nI_1 V1.length) nxt)
    · rw [rf_kt_f g] at nxt
      exact nm_r (nI_1 V1.length) nxt
theorem ry_reps {post : Int32 → SY → Prop} {a lp ll : Nat → Int32} {c kn : Int32} {t r : Nat} (ht : t ≤ 24) (hk : rf_kn a t c kn lp ll) (hp : ∀ lp ll, rf_H lp ll (rf_L a t) → post (nI (rf_kt (rf_ym a t) (rf_L a t))) (nI t, nI r, nI (rf_L a t).length, 1, a, lp, ll)) : wpY_repeats post (nI t, nI r, c, kn, a, lp, ll) := by
  unfold wpY_repeats
  dsimp only
  refine ry_list ht hk ?_
  intro lp ll hH
  exact ⟨(rf_L a t).length + 1, ry_rep8 ht hH (hp lp ll hH) (rf_L a t) [] rfl⟩
theorem rf_od_end {a : Nat → Int32} {post : Int32 → Prop} {c kn : Int32} {lp ll : Nat → Int32} {t r s n b m i : Nat} (hn : n ≤ 36) (hm : m ≤ 36) (hi : i ≤ n ∧ i ≤ m ∧ (i = n ∨ i = m)) (hp : post (rf_od (rf_wd a (s + i) (n - i)) (rf_wd a (b + i) (m - i)))) : wY_order_70 post (nI n) (nI m) (nI t) (nI r) c kn a lp ll := by
  refine pk_eq n m (fun h => ?_) (fun h => pk_le m n (fun g => ?_) (fun g => ?_))
  · rw [show n - i = 0 by omega, show m - i = 0 by omega, rf_wd_0, rf_wd_0, rf_od_00] at hp
    exact hp
  · rw [show n - i = (n - i - 1) + 1 by omega, show m - i = 0 by omega, rf_wd_0, rf_wd_s, rf_od_0r] at hp
    exact hp
  · rw [show m - i = (m - i - 1) + 1 by omega, show n - i = 0 by omega, rf_wd_0, rf_wd_s, rf_od_0l] at hp
    exact hp
theorem ry_od3 {post : Int32 → Prop} {a lp ll : Nat → Int32} {c kn : Int32} {t r s n b m : Nat} (hs : s + n ≤ 36) (hb : b + m ≤ 36) : ∀ d i : Nat, n ≤ i + d → i ≤ n → i ≤ m → post (rf_od (rf_wd a (s + i) (n - i)) (rf_wd a (b + i) (m - i))) → wY_order_3 post (nI s) (nI n) (nI b) (nI m) (nI t) (nI r) c kn a lp ll (d + 1) (nI i) := by
  intro d
  induction d with
  | zero =>
    intro i hd hin him hp
    exact pk_le n i (fun h => rf_od_end (by omega) (by omega) (by omega) hp) (fun h => by omega)
  | succ d ih =>
    intro i hd hin him hp
    refine pk_le n i (fun h => rf_od_end (by omega) (by omega) (by omega) hp) (fun h => pk_le m i (fun g => rf_od_end (by omega) (by omega) (by omega) hp) (fun g => ⟨pk_in (s + i) 36 (by omega) (nI_add s i), pk_in (b + i) 36 (by omega) (nI_add b i), ?_⟩))
    have e1 : n - i = (n - (i + 1)) + 1 := by omega
    have e2 : m - i = (m - (i + 1)) + 1 := by omega
    rw [e1, e2, rf_wd_s, rf_wd_s] at hp
    rw [pk_cl (s + i) (nI_add s i), pk_cl (b + i) (nI_add b i)]
    by_cases hab : a (s + i) = a (b + i)
    · rw [rf_od_e hab] at hp
      exact br_t hab (nm_r (nI_1 i) (ih (i + 1) (by omega) (by omega) (by omega) hp))
    · refine br_f hab ⟨pk_in (s + i) 36 (by omega) (nI_add s i), pk_in (b + i) 36 (by omega) (nI_add b i), ?_⟩
      by_cases z : a (s + i) < a (b + i)
      · rw [rf_od_lt z] at hp
        exact br_f (fun y => Int32.not_lt.mpr y z) hp
      · rw [rf_od_gt hab z] at hp
        exact br_t (Int32.not_lt.mp z) hp
theorem ry_od {post : Int32 → Prop} {a lp ll : Nat → Int32} {c kn : Int32} {t r s n b m : Nat} (hs : s + n ≤ 36) (hb : b + m ≤ 36) (hp : post (rf_od (rf_wd a s n) (rf_wd a b m))) : wpY_order post (nI t, nI r, c, kn, a, lp, ll) (nI s) (nI n) (nI b) (nI m) :=
  ⟨n + 1, ry_od3 hs hb n 0 (by omega) (by omega) (by omega) hp⟩
/-- branches on the order -/
theorem rf_od_b1 {x y : List Int32} {A B : Prop} (f : ¬ rf_lx x y = true → A) (g : rf_lx x y = true → B) : (0 ≤ rf_od x y → A) ∧ (¬ 0 ≤ rf_od x y → B) :=
  ⟨fun z => f (fun w => Int32.not_lt.mpr z (rf_od_neg.mpr w)), fun z => g (by
    by_cases w : rf_lx x y = true
    · exact w
    · exact absurd (Int32.not_lt.mp (fun q => w (rf_od_neg.mp q))) z)⟩
theorem rf_od_b2 {x y : List Int32} {A B : Prop} (f : ¬ rf_lx y x = true → A) (g : rf_lx y x = true → B) : (rf_od x y ≤ 0 → A) ∧ (¬ rf_od x y ≤ 0 → B) :=
  ⟨fun z => f (fun w => Int32.not_lt.mpr z (rf_od_pos.mpr w)), fun z => g (by
    by_cases w : rf_lx y x = true
    · exact w
    · exact absurd (Int32.not_lt.mp (fun q => w (rf_od_pos.mp q))) z)⟩
