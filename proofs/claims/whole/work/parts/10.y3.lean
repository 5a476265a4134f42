/-- an index of the list, or -1 for none -/
def rf_ix (L : List (Nat × Nat)) (b : Nat × Nat) (x : Int32) : Prop := (x = -1 ∧ b = (0, 0)) ∨ (∃ j, x = nI j ∧ L[j]? = some b)
theorem rf_ix_at {a lp ll : Nat → Int32} {t j : Nat} {b : Nat × Nat} (ht : t ≤ 24) (hH : rf_H lp ll (rf_L a t)) (h : (rf_L a t)[j]? = some b) : j < 300 ∧ lp j = nI b.1 ∧ ll j = nI b.2 ∧ 1 ≤ b.2 ∧ b.1 + b.2 ≤ t := by
  obtain ⟨h1, h2⟩ := List.getElem?_eq_some_iff.mp h
  have h3 := rf_L_300 (a := a) ht
  have h4 := hH j b h
  have hm : b ∈ rf_L a t := by rw [← h2]; exact List.getElem_mem h1
  have h5 := rf_L_bd b hm
  exact ⟨by omega, h4.1, h4.2, h5.1, h5.2⟩
theorem ry_fo52_0 {post : Int32 → Prop} {J : Int32 → Int32 → Prop} {a lp ll : Nat → Int32} {c kn x1 x2 : Int32} {t r i : Nat} (hJ : J x2 (nI (i + 1))) : wY_following_52 post J x1 x2 (nI i) 0 (nI t) (nI r) c kn a lp ll :=
  br_t rfl (nm_r (nI_1 i) hJ)
theorem ry_fo52_1 {post : Int32 → Prop} {J : Int32 → Int32 → Prop} {a lp ll : Nat → Int32} {c kn x1 x2 : Int32} {t r i : Nat} {b e : Nat × Nat} (ht : t ≤ 24) (hH : rf_H lp ll (rf_L a t)) (he : (rf_L a t)[i]? = some e) (hb : rf_ix (rf_L a t) b x2)
    (h1 : (b.2 = 0 ∨ rf_lx (rf_wd a e.1 e.2) (rf_wd a b.1 b.2) = true) → J (nI i) (nI (i + 1)))
    (h0 : ¬ b.2 = 0 → ¬ rf_lx (rf_wd a e.1 e.2) (rf_wd a b.1 b.2) = true → J x2 (nI (i + 1))) : wY_following_52 post J x1 x2 (nI i) 1 (nI t) (nI r) c kn a lp ll := by
  obtain ⟨e1, e2, e3, e4, e5⟩ := rf_ix_at ht hH he
  refine br_f (by decide) ?_
  rcases hb with ⟨hx, hb⟩ | ⟨j, hx, hb⟩
  · subst hx hb
    exact br_t (by decide) (nm_r (nI_1 i) (h1 (Or.inl rfl)))
  · obtain ⟨b1, b2, b3, b4, b5⟩ := rf_ix_at ht hH hb
    subst hx
    refine br_f (nI_pos (by omega)) ⟨pk_in i 300 e1, pk_in i 300 e1, pk_in j 300 b1, pk_in j 300 b1, ?_⟩
    rw [nI_clamp (n := i) (by omega), nI_clamp (n := j) (by omega), e2, e3, b2, b3]
    exact ry_od (by omega) (by omega) (rf_od_b1 (fun g => nm_r (nI_1 i) (h0 (by omega) g)) (fun g => nm_r (nI_1 i) (h1 (Or.inr g))))
theorem ry_fo4 {post : Int32 → Prop} {a lp ll : Nat → Int32} {kn x1 : Int32} {t r : Nat} {b0 : Nat × Nat} (ht : t ≤ 24) (hH : rf_H lp ll (rf_L a t)) (hb0 : rf_ix (rf_L a t) b0 x1) (hp : ∀ x, rf_ix (rf_L a t) (rf_bs a (rf_wd a b0.1 b0.2) (rf_L a t)) x → post x) : ∀ (V2 V1 : List (Nat × Nat)) (x2 : Int32), rf_L a t = V1 ++ V2 → rf_ix (rf_L a t) (rf_bs a (rf_wd a b0.1 b0.2) V1) x2 → wY_following_4 post x1 (nI t) (nI r) (nI (rf_L a t).length) kn a lp ll (V2.length + 1) x2 (nI V1.length) := by
  intro V2
  induction V2 with
  | nil =>
    intro V1 x2 hL hx
    rw [List.append_nil] at hL
    have h3 := rf_L_300 (a := a) ht
    have hlen : V1.length = (rf_L a t).length := by rw [hL]
    rw [← hL] at hx
    exact pk_le (rf_L a t).length V1.length (fun _ => hp x2 hx) (fun h => by omega)
  | cons e V2 ih =>
    intro V1 x2 hL hx
    obtain ⟨l1, l2, l3, l4, l5⟩ := rf_Lat ht hH hL
    have hat : (rf_L a t)[V1.length]? = some e := by rw [hL]; exact rf_at
    have hL2 : rf_L a t = (V1 ++ [e]) ++ V2 := by rw [hL, rf_mid]
    have nxt : ∀ y, rf_ix (rf_L a t) (rf_st a (rf_wd a b0.1 b0.2) (rf_bs a (rf_wd a b0.1 b0.2) V1) e) y → wY_following_4 post x1 (nI t) (nI r) (nI (rf_L a t).length) kn a lp ll (V2.length + 1) y (nI (V1.length + 1)) := by
      intro y hy
      rw [← rf_bs_app] at hy
      have := ih (V1 ++ [e]) y hL2 hy
      rw [rf_len1] at this
      exact this
    have one : rf_lx (rf_wd a b0.1 b0.2) (rf_wd a e.1 e.2) = true → wY_following_52 post (wY_following_4 post x1 (nI t) (nI r) (nI (rf_L a t).length) kn a lp ll (V2.length + 1)) x1 x2 (nI V1.length) 1 (nI t) (nI r) (nI (rf_L a t).length) kn a lp ll := by
      intro hlx
      refine ry_fo52_1 ht hH hat hx (fun g => nxt _ ?_) (fun g1 g2 => nxt _ ?_)
      · rw [rf_st_t hlx g]
        exact Or.inr ⟨V1.length, rfl, hat⟩
      · rw [rf_st_f2 g1 g2]
        exact hx
    refine pk_le (rf_L a t).length V1.length (fun h => by omega) (fun _ => ?_)
    rcases hb0 with ⟨hx1, hb0⟩ | ⟨j, hx1, hb0⟩
    · refine br_t (by rw [hx1]; decide) (one ?_)
      rw [hb0]
      obtain ⟨m, hm⟩ : ∃ m, e.2 = m + 1 := ⟨e.2 - 1, by omega⟩
      rw [hm]; rfl
    · obtain ⟨b1, b2, b3, b4, b5⟩ := rf_ix_at ht hH hb0
      have hi : vp_in (nI V1.length) 300 := pk_in V1.length 300 (by omega)
      refine br_f (by rw [hx1]; exact nI_pos (by omega)) ⟨hi, hi, by rw [hx1]; exact pk_in j 300 b1, by rw [hx1]; exact pk_in j 300 b1, ?_⟩
      rw [show x1.toNatClampNeg = j by rw [hx1]; exact nI_clamp (by omega), nI_clamp (n := V1.length) (by omega), l1, l2, b2, b3]
      refine ry_od (by omega) (by omega) (rf_od_b2 (fun g => ?_) (fun g => one g))
      refine ry_fo52_0 (nxt x2 ?_)
      rw [rf_st_f1 g]
      exact hx
theorem ry_fo {post : Int32 → Prop} {a lp ll : Nat → Int32} {kn x1 : Int32} {t r : Nat} {b0 : Nat × Nat} (ht : t ≤ 24) (hH : rf_H lp ll (rf_L a t)) (hb0 : rf_ix (rf_L a t) b0 x1) (hp : ∀ x, rf_ix (rf_L a t) (rf_bs a (rf_wd a b0.1 b0.2) (rf_L a t)) x → post x) : wpY_following post (nI t, nI r, nI (rf_L a t).length, kn, a, lp, ll) x1 :=
  ⟨(rf_L a t).length + 1, ry_fo4 ht hH hb0 hp (rf_L a t) [] (-1) rfl (Or.inl ⟨rfl, rfl⟩)⟩
theorem ry_w27 {post : Int32 → SY → Prop} {a lp ll : Nat → Int32} {kn : Int32} {t r k : Nat} (ht : t ≤ 24) (hH : rf_H lp ll (rf_L a t)) (hk : k < (rf_L a t).length) (hp : post (nI (rf_cd (rf_it a t (k + 1)))) (nI t, nI r, nI (rf_L a t).length, kn, a, lp, ll)) : ∀ (d i : Nat) (x : Int32), i + d = k → rf_ix (rf_L a t) (rf_it a t (i + 1)) x → wY_word_27 post (nI k) (nI t) (nI r) (nI (rf_L a t).length) kn a lp ll (d + 1) x (nI i) := by
  have h3 := rf_L_300 (a := a) ht
  intro d
  induction d with
  | zero =>
    intro i x hi hx
    have : i = k := by omega
    subst this
    have hm := rf_L_bd _ (rf_it_mem ht hk)
    rcases hx with ⟨_, hx⟩ | ⟨j, hx, hj⟩
    · rw [hx] at hm
      exact absurd hm.1 (by decide)
    · obtain ⟨b1, b2, b3, b4, b5⟩ := rf_ix_at ht hH hj
      subst hx
      refine pk_le i i (fun _ => ⟨pk_in j 300 b1, pk_in j 300 b1, ?_⟩) (fun h => by omega)
      rw [nI_clamp (n := j) (by omega), b2, b3]
      show post (nI 25 * nI _ + nI _) _
      rw [pk_mul, nI_add]
      exact hp
  | succ d ih =>
    intro i x hi hx
    refine pk_le k i (fun h => by omega) (fun _ => ry_fo ht hH hx (fun y hy => nm_r (nI_1 i) (ih (i + 1) y (by omega) ?_)))
    rw [rf_it_s]
    exact hy
theorem ry_word {post : Int32 → SY → Prop} {a lp ll : Nat → Int32} {c kn : Int32} {t r k : Nat} (ht : t ≤ 24) (hk2 : k < 2 ^ 31) (hk : rf_kn a t c kn lp ll) (h1 : ∀ lp ll, rf_H lp ll (rf_L a t) → k < (rf_L a t).length → post (nI (rf_cd (rf_it a t (k + 1)))) (nI t, nI r, nI (rf_L a t).length, 1, a, lp, ll)) (h0 : ∀ lp ll, rf_H lp ll (rf_L a t) → (rf_L a t).length ≤ k → post (-3) (nI t, nI r, nI (rf_L a t).length, 1, a, lp, ll)) : wpY_word post (nI t, nI r, c, kn, a, lp, ll) (nI k) := by
  unfold wpY_word
  dsimp only
  refine ry_list ht hk ?_
  intro lp ll hH
  have h3 := rf_L_300 (a := a) ht
  refine br_f (nI_pos hk2) (pk_lt k (rf_L a t).length (fun h => ?_) (fun h => h0 lp ll hH h))
  refine ry_fo (b0 := (0, 0)) ht hH (Or.inl ⟨rfl, rfl⟩) (fun x hx => ⟨k + 1, ry_w27 ht hH h (h1 lp ll hH h) k 0 x (by omega) hx⟩)
theorem ry_rk18 {post : Int32 → SY → Prop} {a lp ll : Nat → Int32} {kn : Int32} {t r : Nat} (ht : t ≤ 24) (hr : r ≤ 12) (hH : rf_H lp ll (rf_L a t)) (hp : post (nI (rf_kt (fun e => rf_lx (rf_wd a e.1 e.2) (rf_wd a 24 r)) (rf_L a t))) (nI t, nI r, nI (rf_L a t).length, kn, a, lp, ll)) : ∀ (V2 V1 : List (Nat × Nat)), rf_L a t = V1 ++ V2 → wY_rank_18 post (nI t) (nI r) (nI (rf_L a t).length) kn a lp ll (V2.length + 1) (nI (rf_kt (fun e => rf_lx (rf_wd a e.1 e.2) (rf_wd a 24 r)) V1)) (nI V1.length) := by
  intro V2
  induction V2 with
  | nil =>
    intro V1 hL
    rw [List.append_nil] at hL
    have h3 := rf_L_300 (a := a) ht
    have hlen : V1.length = (rf_L a t).length := by rw [hL]
    refine pk_le (rf_L a t).length V1.length (fun _ => ?_) (fun h => by omega)
    rw [← hL]
    exact hp
  | cons e V2 ih =>
    intro V1 hL
    obtain ⟨l1, l2, l3, l4, l5⟩ := rf_Lat ht hH hL
    have hL2 : rf_L a t = (V1 ++ [e]) ++ V2 := by rw [hL, rf_mid]
    have nxt := ih (V1 ++ [e]) hL2
    rw [rf_len1] at nxt
    have hi : vp_in (nI V1.length) 300 := pk_in V1.length 300 (by omega)
    refine pk_le (rf_L a t).length V1.length (fun h => by omega) (fun _ => ⟨hi, hi, ?_⟩)
    rw [nI_clamp (n := V1.length) (by omega), l1, l2]
    refine ry_od (s := e.1) (n := e.2) (b := 24) (m := r) (by omega) (by omega) (rf_od_b1 (fun g => ?_) (fun g => ?_))
    · rw [rf_kt_f (f := fun e => rf_lx (rf_wd a e.1 e.2) (rf_wd a 24 r)) g] at nxt
      exact nm_r (nI_1 V1.length) nxt
    · rw [rf_kt_t (f := fun e => rf_lx (rf_wd a e.1 e.2) (rf_wd a 24 r)) g] at nxt
      exact nm_r (nI_1 _) (nm_r (nI_1 V1.length) nxt)
theorem ry_rank {post : Int32 → SY → Prop} {a lp ll : Nat → Int32} {c kn : Int32} {t r : Nat} (ht : t ≤ 24) (hr : r ≤ 12) (hk : rf_kn a t c kn lp ll) (h0 : r = 0 → post (-3) (nI t, nI r, c, kn, a, lp, ll)) (h1 : ∀ lp ll, rf_H lp ll (rf_L a t) → r ≠ 0 → post (nI (rf_kt (fun e => rf_lx (rf_wd a e.1 e.2) (rf_wd a 24 r)) (rf_L a t))) (nI t, nI r, nI (rf_L a t).length, 1, a, lp, ll)) : wpY_rank post (nI t, nI r, c, kn, a, lp, ll) := by
  refine pk_eq r 0 h0 (fun hne => ry_list ht hk ?_)
  intro lp ll hH
  exact ⟨(rf_L a t).length + 1, ry_rk18 ht hr hH (h1 lp ll hH hne) (rf_L a t) [] rfl⟩
/-- what the reference has found of the common words ahead of (p, n) -/
def rf_CI (a : Nat → Int32) (t r p n x : Nat) : Prop := (x = 0 ∨ (1 ≤ x ∧ rf_C a t r x)) ∧ ∀ q m, 1 ≤ m → q + m ≤ r → 0 < rf_ct a t (rf_wd a (24 + q) m) → (q < p ∨ (q = p ∧ m < n)) → m ≤ x
theorem ry_com16 {post : Int32 → Prop} {J : Int32 → Int32 → Prop} {a lp ll : Nat → Int32} {c kn : Int32} {t r p : Nat} (ht : t ≤ 24) (hr : r ≤ 12) (hJ : ∀ x, x ≤ r → rf_CI a t r (p + 1) 0 x → J (nI x) (nI (p + 1))) : ∀ (d n x : Nat), r + 1 ≤ p + n + d → x ≤ r → x < n → n ≤ r + 1 → rf_CI a t r p n x → p < r → wY_common_16 post J (nI p) (nI t) (nI r) c kn a lp ll (d + 1) (nI x) (nI n) := by
  have fin : ∀ n x, x ≤ r → r < p + n → rf_CI a t r p n x → J (nI x) (nI (p + 1)) := by
    intro n x hx h hI
    refine hJ x hx ⟨hI.1, fun q m h1 h2 h3 h4 => hI.2 q m h1 h2 h3 ?_⟩
    omega
  intro d
  induction d with
  | zero =>
    intro n x hd hx hxn hn hI hpr
    exact pk_lt r (p + n) (fun h => nm_r (nI_1 p) (fin n x hx h hI)) (fun h => by omega) rfl (nI_add p n)
  | succ d ih =>
    intro n x hd hx hxn hn hI hpr
    refine pk_lt r (p + n) (fun h => nm_r (nI_1 p) (fin n x hx h hI)) (fun h => ?_) rfl (nI_add p n)
    rw [show (24 : Int32) + nI p = nI (24 + p) from nI_add 24 p]
    have hc := rf_ct_le a t (rf_wd a (24 + p) n)
    refine ry_cnt ht (by omega) (by omega) (pk_le (rf_ct a t (rf_wd a (24 + p) n)) 0 (fun g => nm_r (nI_1 n) (ih (n + 1) x (by omega) hx (by omega) (by omega) ⟨hI.1, fun q m h1 h2 h3 h4 => ?_⟩ hpr)) (fun g => nm_r (nI_1 n) (ih (n + 1) n (by omega) (by omega) (by omega) (by omega) ⟨Or.inr ⟨by omega, p, by omega, g⟩, fun q m h1 h2 h3 h4 => ?_⟩ hpr)))
    · by_cases z : q = p ∧ m = n
      · obtain ⟨rfl, rfl⟩ := z
        omega
      · exact hI.2 q m h1 h2 h3 (by omega)
    · by_cases z : q = p ∧ m = n
      · omega
      · have := hI.2 q m h1 h2 h3 (by omega)
        omega
theorem ry_com4 {post : Int32 → Prop} {a lp ll : Nat → Int32} {c kn : Int32} {t r : Nat} (ht : t ≤ 24) (hr : r ≤ 12) (hp : ∀ x, rf_mx (rf_C a t r) x → post (nI x)) : ∀ (d p x : Nat), p + d = r → x ≤ r → rf_CI a t r p 0 x → wY_common_4 post (nI t) (nI r) c kn a lp ll (d + 1) (nI x) (nI p) := by
  intro d
  induction d with
  | zero =>
    intro p x hd hx hI
    refine pk_le r p (fun _ => hp x ⟨hI.1, fun n hn hC => ?_⟩) (fun h => by omega)
    obtain ⟨q, h1, h2⟩ := hC
    exact hI.2 q n hn h1 h2 (by omega)
  | succ d ih =>
    intro p x hd hx hI
    refine pk_le r p (fun h => by omega) (fun _ => nm_r (nI_1 x) ⟨r + 1 + 1, ry_com16 ht hr (fun y hy hI2 => ih (p + 1) y (by omega) hy hI2) (r + 1) (x + 1) x (by omega) hx (by omega) (by omega) ⟨hI.1, fun q m h1 h2 h3 h4 => ?_⟩ (by omega)⟩)
    by_cases z : q < p
    · exact hI.2 q m h1 h2 h3 (Or.inl z)
    · omega
theorem ry_com {post : Int32 → Prop} {a lp ll : Nat → Int32} {c kn : Int32} {t r : Nat} (ht : t ≤ 24) (hr : r ≤ 12) (hp : ∀ x, rf_mx (rf_C a t r) x → post (nI x)) : wpY_common post (nI t, nI r, c, kn, a, lp, ll) :=
  ⟨r + 1, ry_com4 ht hr hp r 0 0 (by omega) (by omega) ⟨Or.inl rfl, fun q m h1 h2 h3 h4 => by omega⟩⟩
theorem ry_un17 {post : Int32 → Prop} {a lp ll : Nat → Int32} {c kn : Int32} {t r p : Nat} (ht : t ≤ 24) (hpt : p < t) : ∀ d n : Nat, 1 ≤ n → n + d = t - p + 1 → post (rf_fd (rf_u1 a t p) n d) → wY_unique_17 post (nI p) (nI t) (nI r) c kn a lp ll (d + 1) (nI n) := by
  intro d
  induction d with
  | zero =>
    intro n h1 hn hp
    exact pk_lt t (p + n) (fun _ => hp) (fun h => by omega) rfl (nI_add p n)
  | succ d ih =>
    intro n h1 hn hp
    have hc := rf_ct_le a t (rf_wd a p n)
    refine pk_lt t (p + n) (fun h => by omega) (fun _ => ry_cnt ht h1 (by omega) ?_) rfl (nI_add p n)
    refine pk_eq (rf_ct a t (rf_wd a p n)) 1 (fun h => ?_) (fun h => ?_)
    · rw [rf_fd_t (rf_u1_iff.mpr h)] at hp
      exact hp
    · rw [rf_fd_f (fun z => h (rf_u1_iff.mp z))] at hp
      exact nm_r (nI_1 n) (ih (n + 1) (by omega) (by omega) hp)
