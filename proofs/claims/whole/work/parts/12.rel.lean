/-- one text, one probe; the reference's list is unknown, or it is the list of the text -/
def i_Rel (k : Nat) (u : SX) (v : SY) : Prop := ∃ (a lp ll : Nat → Int32) (c kn : Int32) (t r : Nat), t ≤ 24 ∧ r ≤ 12 ∧ rf_ok a t ∧ rf_kn a t c kn lp ll ∧ u = (nI t, nI r, a) ∧ v = (nI t, nI r, c, kn, a, lp, ll)
theorem rr_mk {k : Nat} {a lp ll : Nat → Int32} {c kn : Int32} {t r : Nat} (ht : t ≤ 24) (hr : r ≤ 12) (ho : rf_ok a t) (hk : rf_kn a t c kn lp ll) : i_Rel k (nI t, nI r, a) (nI t, nI r, c, kn, a, lp, ll) :=
  ⟨a, lp, ll, c, kn, t, r, ht, hr, ho, hk, rfl, rfl⟩
theorem rr_kn {a lp ll : Nat → Int32} {t : Nat} (h : rf_H lp ll (rf_L a t)) : rf_kn a t (nI (rf_L a t).length) 1 lp ll := Or.inr ⟨rfl, rfl, h⟩
theorem i_up {k : Nat} {u : SX} {v : SY} (h : i_Rel k u v) : i_Rel (k + 2) u v := h
theorem i_vc0 : wpX_init (fun u => wpY_init (fun v => i_Rel 0 u v)) :=
  ⟨fun _ => 0, fun _ => 0, fun _ => 0, 0, 0, 0, 0, by omega, by omega, fun q hq => by omega, Or.inl rfl, rfl, rfl⟩
theorem rr_3 {l : Nat} (hl : l < 2 ^ 31) (h : ¬ (3 : Int32) < nI l) : l < 4 := by
  by_cases z : 3 < l
  · exact absurd (nI_lt (a := 3) z hl) h
  · omega
theorem i_vc_type {k : Nat} {u : SX} {v : SY} (I : i_Rel k u v) (hk : k + 2 ≤ 1024) (v1 : Int32) : wpX_type (fun r u' => wpY_type (fun r' v' => r' = r ∧ i_Rel (k + 2) u' v') v v1) u v1 := by
  obtain ⟨a, lp, ll, c, kn, t, r, ht, hr, ho, hn, rfl, rfl⟩ := I
  refine pk_lt t 24 (fun h => ?_) (fun h => ?_)
  · by_cases h0 : v1 < 0
    · refine br_t h0 (br_t rfl ?_)
      exact pk_eq t 24 (fun g => by omega) (fun _ => br_t h0 ⟨rfl, rr_mk ht hr ho hn⟩)
    · by_cases h3 : (3 : Int32) < v1
      · refine br_f h0 (br_t h3 (br_t rfl ?_))
        exact pk_eq t 24 (fun g => by omega) (fun _ => br_f h0 (br_f (fun z => Int32.not_lt.mpr z h3) ⟨rfl, rr_mk ht hr ho hn⟩))
      · obtain ⟨l, hl, rfl⟩ := nI_of h0
        have hl4 := rr_3 hl h3
        refine br_f h0 (br_f h3 (br_f (by decide) ⟨pk_in t 36 (by omega), nm_r (congrArg (fun i => upd a i (nI l)) (pk_cl t)) (nm_r (nI_1 t) ?_)⟩))
        refine pk_eq t 24 (fun g => by omega) (fun _ => br_f h0 (br_t (Int32.not_lt.mp h3) ⟨pk_in t 36 (by omega), nm_r (congrArg (fun i => upd a i (nI l)) (pk_cl t)) (nm_r (nI_1 t) ⟨rfl, ?_⟩)⟩))
        exact rr_mk (by omega) hr (rf_ok_put hl4 ho) (Or.inl rfl)
  · exact pk_eq t 24 (fun g => ⟨rfl, rr_mk ht hr ho hn⟩) (fun g => by omega)
theorem i_vc_shift {k : Nat} {u : SX} {v : SY} (I : i_Rel k u v) (hk : k + 2 ≤ 1024) : wpX_shift (fun r u' => wpY_shift (fun r' v' => r' = r ∧ i_Rel (k + 2) u' v') v) u := by
  obtain ⟨a, lp, ll, c, kn, t, r, ht, hr, ho, hn, rfl, rfl⟩ := I
  refine pk_lt 0 t (fun h => ?_) (fun h => ?_)
  · obtain ⟨s, rfl⟩ : ∃ s, t = s + 1 := ⟨t - 1, by omega⟩
    have key := rx_sh12 (post := fun r_1 u' => wpY_shift (fun r' v' => r' = r_1 ∧ i_Rel (k + 2) u' v') (nI (s + 1), nI r, c, kn, a, lp, ll)) (a := a) (r := r) ht ?_ s 0 (by omega)
    · rw [rf_sh_0] at key
      exact ⟨s + 1, key⟩
    · refine pk_eq (s + 1) 0 (fun g => by omega) (fun _ => nm_r (nI_pred s) ?_)
      have key2 := ry_sh22 (post := fun r' v' => r' = nI (s + 1 - 1) ∧ i_Rel (k + 2) (nI (s + 1 - 1), nI r, rf_sh a (s + 1 - 1)) v') (a := a) (lp := lp) (ll := ll) (c := c) (kn := kn) (r := r) (t := s) (by omega) ⟨rfl, rr_mk (by omega) hr (rf_ok_sh ho) (Or.inl rfl)⟩ s 0 (by omega)
      rw [rf_sh_0] at key2
      exact ⟨s + 1, key2⟩
  · exact pk_eq t 0 (fun g => ⟨rfl, rr_mk ht hr ho hn⟩) (fun g => by omega)
theorem i_vc_ask {k : Nat} {u : SX} {v : SY} (I : i_Rel k u v) (hk : k + 2 ≤ 1024) (v1 : Int32) : wpX_ask (fun r u' => wpY_ask (fun r' v' => r' = r ∧ i_Rel (k + 2) u' v') v v1) u v1 := by
  obtain ⟨a, lp, ll, c, kn, t, r, ht, hr, ho, hn, rfl, rfl⟩ := I
  refine pk_lt r 12 (fun h => ?_) (fun h => ?_)
  · by_cases h0 : v1 < 0
    · refine br_t h0 (br_t rfl ?_)
      exact pk_eq r 12 (fun g => by omega) (fun _ => br_t h0 ⟨rfl, rr_mk ht hr ho hn⟩)
    · by_cases h3 : (3 : Int32) < v1
      · refine br_f h0 (br_t h3 (br_t rfl ?_))
        exact pk_eq r 12 (fun g => by omega) (fun _ => br_f h0 (br_f (fun z => Int32.not_lt.mpr z h3) ⟨rfl, rr_mk ht hr ho hn⟩))
      · have e24 : (24 : Int32) + nI r = nI (24 + r) := nI_add 24 r
        have ecl : ((24 : Int32) + nI r).toNatClampNeg = 24 + r := pk_cl (24 + r) e24
        have same : ∀ j, j < t → upd a (24 + r) v1 j = a j := fun j hj => pk_un (by omega)
        refine br_f h0 (br_f h3 (br_f (by decide) ⟨pk_in (24 + r) 36 (by omega) e24, nm_r (congrArg (fun i => upd a i v1) ecl) (nm_r (nI_1 r) ?_)⟩))
        refine pk_eq r 12 (fun g => by omega) (fun _ => br_f h0 (br_t (Int32.not_lt.mp h3) ⟨pk_in (24 + r) 36 (by omega) e24, nm_r (congrArg (fun i => upd a i v1) ecl) (nm_r (nI_1 r) ⟨rfl, ?_⟩)⟩))
        refine rr_mk ht (by omega) (rf_ok_cong same ho) ?_
        unfold rf_kn
        rw [rf_L_cong same]
        exact hn
  · exact pk_eq r 12 (fun g => ⟨rfl, rr_mk ht hr ho hn⟩) (fun g => by omega)
theorem i_vc_wipe {k : Nat} {u : SX} {v : SY} (I : i_Rel k u v) (hk : k + 2 ≤ 1024) : wpX_wipe (fun r u' => wpY_wipe (fun r' v' => r' = r ∧ i_Rel (k + 2) u' v') v) u := by
  obtain ⟨a, lp, ll, c, kn, t, r, ht, hr, ho, hn, rfl, rfl⟩ := I
  exact ⟨rfl, rr_mk (r := 0) ht (by omega) ho hn⟩
theorem i_vc_count {k : Nat} {u : SX} {v : SY} (I : i_Rel k u v) (hk : k + 2 ≤ 1024) : wpX_count (fun r => wpY_count (fun r' => r' = r ∧ i_Rel (k + 2) u v) v) u := by
  obtain ⟨a, lp, ll, c, kn, t, r, ht, hr, ho, hn, rfl, rfl⟩ := I
  refine pk_eq r 0 (fun h => ?_) (fun h => rx_cnt (s := 24) ht (by omega) ?_)
  · exact pk_eq r 0 (fun _ => ⟨rfl, rr_mk ht hr ho hn⟩) (fun g => by omega)
  · exact pk_eq r 0 (fun g => by omega) (fun g => ry_cnt (s := 24) ht (by omega) (by omega) ⟨rfl, rr_mk ht hr ho hn⟩)
theorem i_vc_place {k : Nat} {u : SX} {v : SY} (I : i_Rel k u v) (hk : k + 2 ≤ 1024) : wpX_place (fun r => wpY_place (fun r' => r' = r ∧ i_Rel (k + 2) u v) v) u := by
  obtain ⟨a, lp, ll, c, kn, t, r, ht, hr, ho, hn, rfl, rfl⟩ := I
  refine pk_eq r 0 (fun h => ?_) (fun h => rx_fp (s := 24) ht (by omega) ?_)
  · exact pk_eq r 0 (fun _ => ⟨rfl, rr_mk ht hr ho hn⟩) (fun g => by omega)
  · exact pk_eq r 0 (fun g => by omega) (fun g => ry_fp (s := 24) ht (by omega) (by omega) ⟨rfl, rr_mk ht hr ho hn⟩)
theorem i_vc_words {k : Nat} {u : SX} {v : SY} (I : i_Rel k u v) (hk : k + 2 ≤ 1024) : wpX_words (fun r => wpY_words (fun r' v' => r' = r ∧ i_Rel (k + 2) u v') v) u := by
  obtain ⟨a, lp, ll, c, kn, t, r, ht, hr, ho, hn, rfl, rfl⟩ := I
  exact rx_words ht (ry_words ht hn (fun lp ll hH => ⟨rfl, rr_mk ht hr ho (rr_kn hH)⟩))
theorem i_vc_longest {k : Nat} {u : SX} {v : SY} (I : i_Rel k u v) (hk : k + 2 ≤ 1024) (v1 : Int32) : wpX_longest (fun r => wpY_longest (fun r' v' => r' = r ∧ i_Rel (k + 2) u v') v v1) u v1 := by
  obtain ⟨a, lp, ll, c, kn, t, r, ht, hr, ho, hn, rfl, rfl⟩ := I
  by_cases h1 : v1 < 1
  · exact br_t h1 (br_t h1 ⟨rfl, rr_mk ht hr ho hn⟩)
  · by_cases h2 : v1 ≤ 24
    · have h0 : ¬ v1 < 0 := fun z => h1 (Int32.lt_trans z (by decide))
      obtain ⟨m, hm, rfl⟩ := nI_of h0
      have hm1 : 1 ≤ m := by
        by_cases z : m < 1
        · exact absurd (nI_lt (b := 1) z (by omega)) h1
        · omega
      have hm2 : m ≤ 24 := (nI_leI (b := 24) hm (by omega)).mp h2
      exact rx_lng ht hm1 hm2 (fun x hx => ry_lng ht hm1 hm2 hn (fun y lp ll hH hy => ⟨by rw [rf_mx_un hx hy], rr_mk ht hr ho (rr_kn hH)⟩))
    · exact br_f h1 (br_f h2 (br_f h1 (br_f h2 ⟨rfl, rr_mk ht hr ho hn⟩)))
theorem i_vc_repeats {k : Nat} {u : SX} {v : SY} (I : i_Rel k u v) (hk : k + 2 ≤ 1024) : wpX_repeats (fun r => wpY_repeats (fun r' v' => r' = r ∧ i_Rel (k + 2) u v') v) u := by
  obtain ⟨a, lp, ll, c, kn, t, r, ht, hr, ho, hn, rfl, rfl⟩ := I
  exact rx_reps ht (ry_reps ht hn (fun lp ll hH => ⟨by rw [rf_reps ho], rr_mk ht hr ho (rr_kn hH)⟩))
theorem i_vc_word {k : Nat} {u : SX} {v : SY} (I : i_Rel k u v) (hk : k + 2 ≤ 1024) (v1 : Int32) : wpX_word (fun r => wpY_word (fun r' v' => r' = r ∧ i_Rel (k + 2) u v') v v1) u v1 := by
  obtain ⟨a, lp, ll, c, kn, t, r, ht, hr, ho, hn, rfl, rfl⟩ := I
  by_cases h0 : v1 < 0
  · refine br_t h0 ?_
    unfold wpY_word
    dsimp only
    exact ry_list ht hn (fun lp ll hH => br_t h0 ⟨rfl, rr_mk ht hr ho (rr_kn hH)⟩)
  · obtain ⟨j, hj, rfl⟩ := nI_of h0
    refine rx_word ht hj (fun h => ?_) (fun h => ?_)
    · exact ry_word ht hj hn (fun lp ll hH _ => ⟨rfl, rr_mk ht hr ho (rr_kn hH)⟩) (fun lp ll hH g => by omega)
    · exact ry_word ht hj hn (fun lp ll hH g => by omega) (fun lp ll hH _ => ⟨rfl, rr_mk ht hr ho (rr_kn hH)⟩)
theorem i_vc_rank {k : Nat} {u : SX} {v : SY} (I : i_Rel k u v) (hk : k + 2 ≤ 1024) : wpX_rank (fun r => wpY_rank (fun r' v' => r' = r ∧ i_Rel (k + 2) u v') v) u := by
  obtain ⟨a, lp, ll, c, kn, t, r, ht, hr, ho, hn, rfl, rfl⟩ := I
  refine rx_rank ht hr (fun h => ?_) (fun h => ?_)
  · exact ry_rank ht hr hn (fun _ => ⟨rfl, rr_mk ht hr ho hn⟩) (fun lp ll hH g => absurd h g)
  · exact ry_rank ht hr hn (fun g => absurd g h) (fun lp ll hH _ => ⟨by rw [rf_rank], rr_mk ht hr ho (rr_kn hH)⟩)
theorem i_vc_common {k : Nat} {u : SX} {v : SY} (I : i_Rel k u v) (hk : k + 2 ≤ 1024) : wpX_common (fun r => wpY_common (fun r' => r' = r ∧ i_Rel (k + 2) u v) v) u := by
  obtain ⟨a, lp, ll, c, kn, t, r, ht, hr, ho, hn, rfl, rfl⟩ := I
  exact rx_com ht hr (fun x hx => ry_com ht hr (fun y hy => ⟨by rw [rf_mx_un hx hy], rr_mk ht hr ho hn⟩))
theorem i_vc_unique {k : Nat} {u : SX} {v : SY} (I : i_Rel k u v) (hk : k + 2 ≤ 1024) (v1 : Int32) : wpX_unique (fun r => wpY_unique (fun r' => r' = r ∧ i_Rel (k + 2) u v) v v1) u v1 := by
  obtain ⟨a, lp, ll, c, kn, t, r, ht, hr, ho, hn, rfl, rfl⟩ := I
  by_cases h0 : v1 < 0
  · exact br_t h0 (br_t h0 ⟨rfl, rr_mk ht hr ho hn⟩)
  · obtain ⟨p, hp, rfl⟩ := nI_of h0
    refine br_f h0 (pk_lt p t (fun h => ⟨t - p + 1, rx_un17 ht h (t - p) 1 (by omega) ?_⟩) (fun h => ?_))
    · exact br_f h0 (pk_lt p t (fun _ => ⟨t - p + 1, ry_un17 ht h (t - p) 1 (by omega) (by omega) ⟨rfl, rr_mk ht hr ho hn⟩⟩) (fun g => by omega))
    · exact br_f h0 (pk_lt p t (fun g => by omega) (fun _ => ⟨rfl, rr_mk ht hr ho hn⟩))
