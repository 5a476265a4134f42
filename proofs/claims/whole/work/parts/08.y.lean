theorem ry_same3 {post : Int32 → Prop} {a lp ll : Nat → Int32} {c kn : Int32} {t r q s n : Nat} (hq : q + n ≤ 36) (hs : s + n ≤ 36) : ∀ d i : Nat, i + d = n → (rf_wd a (s + i) d = rf_wd a (q + i) d → post 1) → (¬ rf_wd a (s + i) d = rf_wd a (q + i) d → post 0) → wY_same_3 post (nI s) (nI q) (nI n) (nI t) (nI r) c kn a lp ll (d + 1) (nI i) := by
  intro d
  induction d with
  | zero =>
    intro i hi h1 h0
    exact pk_le n i (fun _ => h1 rfl) (fun h => by omega)
  | succ d ih =>
    intro i hi h1 h0
    refine pk_le n i (fun h => by omega) (fun _ => ⟨pk_in (s + i) 36 (by omega) (nI_add s i), pk_in (q + i) 36 (by omega) (nI_add q i), ?_⟩)
    rw [pk_cl (s + i) (nI_add s i), pk_cl (q + i) (nI_add q i)]
    by_cases hab : a (s + i) = a (q + i)
    · refine br_t hab (nm_r (nI_1 i) (ih (i + 1) (by omega) (fun e => h1 ?_) (fun ne => h0 (fun e => ne ?_))))
      · show a (s + i) :: rf_wd a (s + (i + 1)) d = a (q + i) :: rf_wd a (q + (i + 1)) d
        rw [hab, e]
      · exact (List.cons.inj (show a (s + i) :: rf_wd a (s + (i + 1)) d = a (q + i) :: rf_wd a (q + (i + 1)) d from e)).2
    · refine br_f hab (h0 (fun e => hab ?_))
      exact (List.cons.inj (show a (s + i) :: rf_wd a (s + (i + 1)) d = a (q + i) :: rf_wd a (q + (i + 1)) d from e)).1
theorem ry_same {post : Int32 → Prop} {a lp ll : Nat → Int32} {c kn : Int32} {t r q s n : Nat} (ht : t ≤ 24) (hq : q + n ≤ t) (hs : s + n ≤ 36) (hp : post (rf_b (rf_oc a t (rf_wd a s n) q))) : wpY_same post (nI t, nI r, c, kn, a, lp, ll) (nI s) (nI q) (nI n) := by
  refine ⟨n + 1, ry_same3 (by omega) hs n 0 (by omega) (fun e => ?_) (fun ne => ?_)⟩
  · rw [rf_b_t ((rf_oc_wd (a := a) (t := t) (s := s) (n := n) (q := q)).mpr ⟨by omega, e.symm⟩)] at hp
    exact hp
  · rw [rf_b_f (fun z => ne ((rf_oc_wd (a := a) (t := t) (s := s) (n := n) (q := q)).mp z).2.symm)] at hp
    exact hp
theorem rf_oc_no {a : Nat → Int32} {t s n q : Nat} (h : t < q + n) : ¬ rf_oc a t (rf_wd a s n) q = true := fun z => by
  have := (rf_oc_wd.mp z).1
  omega
theorem ry_cnt5 {post : Int32 → Prop} {a lp ll : Nat → Int32} {c kn : Int32} {t r s n : Nat} (ht : t ≤ 24) (hn : 1 ≤ n) (hs : s + n ≤ 36) (hp : post (nI (rf_ct a t (rf_wd a s n)))) : ∀ d q : Nat, q + d = t → wY_countOf_5 post (nI s) (nI n) (nI t) (nI r) c kn a lp ll (d + 1) (nI (rf_cn (rf_oc a t (rf_wd a s n)) q)) (nI q) := by
  have fin : ∀ q, q ≤ t → t < q + n → post (nI (rf_cn (rf_oc a t (rf_wd a s n)) q)) := by
    intro q hq hf
    have : rf_ct a t (rf_wd a s n) = rf_cn (rf_oc a t (rf_wd a s n)) q := rf_cn_up t hq (fun j h1 h2 => rf_oc_no (by omega))
    rw [← this]
    exact hp
  intro d
  induction d with
  | zero =>
    intro q hq
    exact pk_lt t (q + n) (fun h => fin q (by omega) h) (fun h => by omega) rfl (nI_add q n)
  | succ d ih =>
    intro q hq
    refine pk_lt t (q + n) (fun h => fin q (by omega) h) (fun h0 => ry_same ht h0 hs (rf_b_if (fun h => ?_) (fun h => ?_))) rfl (nI_add q n)
    · have := ih (q + 1) (by omega)
      rw [rf_cn_t h] at this
      exact nm_r (nI_1 _) (nm_r (nI_1 q) this)
    · have := ih (q + 1) (by omega)
      rw [rf_cn_f h] at this
      exact nm_r (nI_1 q) this
theorem ry_cnt {post : Int32 → Prop} {a lp ll : Nat → Int32} {c kn : Int32} {t r s n : Nat} (ht : t ≤ 24) (hn : 1 ≤ n) (hs : s + n ≤ 36) (hp : post (nI (rf_ct a t (rf_wd a s n)))) : wpY_countOf post (nI t, nI r, c, kn, a, lp, ll) (nI s) (nI n) :=
  ⟨t + 1, ry_cnt5 ht hn hs hp t 0 (by omega)⟩
theorem ry_fp2 {post : Int32 → Prop} {a lp ll : Nat → Int32} {c kn : Int32} {t r s n : Nat} (ht : t ≤ 24) (hn : 1 ≤ n) (hs : s + n ≤ 36) : ∀ d q : Nat, q + d = t → post (rf_fd (rf_oc a t (rf_wd a s n)) q d) → wY_firstOf_2 post (nI s) (nI n) (nI t) (nI r) c kn a lp ll (d + 1) (nI q) := by
  intro d
  induction d with
  | zero =>
    intro q hq hp
    exact pk_lt t (q + n) (fun _ => hp) (fun h => by omega) rfl (nI_add q n)
  | succ d ih =>
    intro q hq hp
    refine pk_lt t (q + n) (fun h => ?_) (fun h0 => ry_same ht h0 hs (rf_b_if (fun h => ?_) (fun h => ?_))) rfl (nI_add q n)
    · rw [rf_fd_n (fun j h1 h2 => rf_oc_no (by omega))] at hp
      exact hp
    · rw [rf_fd_t h] at hp
      exact hp
    · rw [rf_fd_f h] at hp
      exact nm_r (nI_1 q) (ih (q + 1) (by omega) hp)
theorem ry_fp {post : Int32 → Prop} {a lp ll : Nat → Int32} {c kn : Int32} {t r s n : Nat} (ht : t ≤ 24) (hn : 1 ≤ n) (hs : s + n ≤ 36) (hp : post (rf_fp a t (rf_wd a s n))) : wpY_firstOf post (nI t, nI r, c, kn, a, lp, ll) (nI s) (nI n) :=
  ⟨t + 1, ry_fp2 ht hn hs t 0 (by omega) hp⟩
theorem rf_ft {f : Nat × Nat → Bool} {t p k : Nat} (h : f (p, k + 1) = true) : (rf_al t p ++ rf_row p (k + 1)).filter f = (rf_al t p ++ rf_row p k).filter f ++ [(p, k + 1)] := by
  rw [rf_row_s, ← List.append_assoc, List.filter_append, List.filter_cons_of_pos h, List.filter_nil]
theorem rf_ff {f : Nat × Nat → Bool} {t p k : Nat} (h : ¬ f (p, k + 1) = true) : (rf_al t p ++ rf_row p (k + 1)).filter f = (rf_al t p ++ rf_row p k).filter f := by
  rw [rf_row_s, ← List.append_assoc, List.filter_append, List.filter_cons_of_neg h, List.filter_nil, List.append_nil]
/-- what the reference knows of its list -/
def rf_kn (a : Nat → Int32) (t : Nat) (c kn : Int32) (lp ll : Nat → Int32) : Prop := kn = 0 ∨ (kn = 1 ∧ c = nI (rf_L a t).length ∧ rf_H lp ll (rf_L a t))
theorem ry_list20 {post : SY → Prop} {a lp ll : Nat → Int32} {t r : Nat} (ht : t ≤ 24) (hp : ∀ lp ll, rf_H lp ll (rf_L a t) → post (nI t, nI r, nI (rf_L a t).length, 1, a, lp, ll)) : ∃ f, wY_list_20 post (nI t) (nI r) 1 f 0 0 a lp ll := by
  refine rf_nest0 (σ := Nat × (Nat → Int32) × (Nat → Int32)) t (fun V s => s.1 = (V.filter (rf_fs a t)).length ∧ rf_H s.2.1 s.2.2 (V.filter (rf_fs a t))) (fun f p s => wY_list_20 post (nI t) (nI r) 1 f (nI p) (nI s.1) a s.2.1 s.2.2) (fun f m p k s => wY_list_30 post (wY_list_20 post (nI t) (nI r) 1 f) (nI p) (nI t) (nI r) 1 m (nI (k + 1)) (nI s.1) a s.2.1 s.2.2) (0, lp, ll) ⟨rfl, rf_H_0⟩ ?_ ?_ ?_ ?_
  · intro f s hs
    refine pk_le t t (fun _ => ?_) (fun h => by omega)
    have := hp s.2.1 s.2.2 hs.2
    rw [hs.1]
    exact this
  · intro f p s hpt hm
    exact pk_le t p (fun h => by omega) (fun _ => hm)
  · intro f m p s hpt hO
    exact pk_lt t (p + (t - p + 1)) (fun _ => nm_r (nI_1 p) hO) (fun h => by omega) rfl (nI_add p (t - p + 1))
  · intro f m p k s hpt hk hI hn
    obtain ⟨hI1, hI2⟩ := hI
    have room := rf_al_room (p := p) (n := k) ht hpt hk
    have room2 := List.length_filter_le (rf_fs a t) (rf_al t p ++ rf_row p k)
    have hs : s.1 < 300 := by omega
    refine pk_lt t (p + (k + 1)) (fun h => by omega) (fun _ => ry_fp ht (by omega) (by omega) ?_) rfl (nI_add p (k + 1))
    by_cases h : rf_fp a t (rf_wd a p (k + 1)) = nI p
    · have hf : rf_fs a t (p, k + 1) = true := rf_fs_iff.mpr h
      refine br_t h ⟨pk_in s.1 300 hs, nm_r (congrArg (fun i => upd s.2.1 i (nI p)) (pk_cl s.1)) ⟨pk_in s.1 300 hs, nm_r (congrArg (fun i => upd s.2.2 i (nI (k + 1))) (pk_cl s.1)) (nm_r (nI_1 s.1) (nm_r (nI_1 (k + 1)) ?_))⟩⟩
      refine hn (s.1 + 1, upd s.2.1 s.1 (nI p), upd s.2.2 s.1 (nI (k + 1))) ⟨?_, ?_⟩
      · rw [rf_ft hf, rf_len1, ← hI1]
      · rw [rf_ft hf, hI1]
        exact rf_H_s hI2
    · have hf : ¬ rf_fs a t (p, k + 1) = true := fun z => h (rf_fs_iff.mp z)
      refine br_f h (nm_r (nI_1 (k + 1)) (hn s ⟨?_, ?_⟩))
      · rw [rf_ff hf]; exact hI1
      · rw [rf_ff hf]; exact hI2
theorem ry_list {post : SY → Prop} {a lp ll : Nat → Int32} {c kn : Int32} {t r : Nat} (ht : t ≤ 24) (hk : rf_kn a t c kn lp ll) (hp : ∀ lp ll, rf_H lp ll (rf_L a t) → post (nI t, nI r, nI (rf_L a t).length, 1, a, lp, ll)) : wpY_list post (nI t, nI r, c, kn, a, lp, ll) := by
  rcases hk with hk | ⟨h1, h2, h3⟩
  · subst hk
    exact br_t rfl (ry_list20 ht hp)
  · subst h1 h2
    exact br_f (by decide) (hp lp ll h3)
theorem ry_words {post : Int32 → SY → Prop} {a lp ll : Nat → Int32} {c kn : Int32} {t r : Nat} (ht : t ≤ 24) (hk : rf_kn a t c kn lp ll) (hp : ∀ lp ll, rf_H lp ll (rf_L a t) → post (nI (rf_L a t).length) (nI t, nI r, nI (rf_L a t).length, 1, a, lp, ll)) : wpY_words post (nI t, nI r, c, kn, a, lp, ll) := by
  unfold wpY_words
  dsimp only
  exact ry_list ht hk hp
/-- the walk over the list: what stands at each place -/
theorem rf_Lat {a lp ll : Nat → Int32} {t : Nat} {V1 V2 : List (Nat × Nat)} {e : Nat × Nat} (ht : t ≤ 24) (hH : rf_H lp ll (rf_L a t)) (hL : rf_L a t = V1 ++ e :: V2) : lp V1.length = nI e.1 ∧ ll V1.length = nI e.2 ∧ (1 ≤ e.2 ∧ e.1 + e.2 ≤ t) ∧ V1.length < (rf_L a t).length ∧ (rf_L a t).length ≤ 300 := by
  have h := rf_H_at (hL ▸ hH)
  have hm : e ∈ rf_L a t := by rw [hL]; exact List.mem_append.mpr (Or.inr List.mem_cons_self)
  refine ⟨h.1, h.2, rf_L_bd e hm, ?_, rf_L_300 ht⟩
  rw [hL, List.length_append, List.length_cons]
  omega
theorem rf_QL_s {a : Nat → Int32} {t m n : Nat} {V : List (Nat × Nat)} {e : Nat × Nat} : rf_QL a t m (V ++ [e]) n ↔ rf_QL a t m V n ∨ (e.2 = n ∧ m ≤ rf_ct a t (rf_wd a e.1 e.2)) := by
  constructor
  · intro ⟨f, hf, h1, h2⟩
    rcases List.mem_append.mp hf with hf | hf
    · exact Or.inl ⟨f, hf, h1, h2⟩
    · rw [List.mem_singleton] at hf
      subst hf
      exact Or.inr ⟨h1, h2⟩
  · intro h
    rcases h with ⟨f, hf, h1, h2⟩ | ⟨h1, h2⟩
    · exact ⟨f, List.mem_append.mpr (Or.inl hf), h1, h2⟩
    · exact ⟨e, List.mem_append.mpr (Or.inr (List.mem_singleton.mpr rfl)), h1, h2⟩
theorem rf_mxQ_keep {a : Nat → Int32} {t m x : Nat} {V : List (Nat × Nat)} {e : Nat × Nat} (h : rf_mx (rf_QL a t m V) x) (he : e.2 ≤ x ∨ ¬ m ≤ rf_ct a t (rf_wd a e.1 e.2)) : rf_mx (rf_QL a t m (V ++ [e])) x := by
  obtain ⟨h1, h2⟩ := h
  refine ⟨?_, fun n hn hQ => ?_⟩
  · rcases h1 with z | z
    · exact Or.inl z
    · exact Or.inr ⟨z.1, rf_QL_s.mpr (Or.inl z.2)⟩
  · rcases rf_QL_s.mp hQ with z | z
    · exact h2 n hn z
    · rcases he with y | y
      · omega
      · exact absurd z.2 y
theorem rf_mxQ_put {a : Nat → Int32} {t m x : Nat} {V : List (Nat × Nat)} {e : Nat × Nat} (h : rf_mx (rf_QL a t m V) x) (h1 : x < e.2) (h2 : m ≤ rf_ct a t (rf_wd a e.1 e.2)) : rf_mx (rf_QL a t m (V ++ [e])) e.2 := by
  refine ⟨Or.inr ⟨by omega, rf_QL_s.mpr (Or.inr ⟨rfl, h2⟩)⟩, fun n hn hQ => ?_⟩
  rcases rf_QL_s.mp hQ with z | z
  · have := h.2 n hn z
    omega
  · omega
theorem ry_lng22 {post : Int32 → SY → Prop} {a lp ll : Nat → Int32} {kn : Int32} {t r m : Nat} (ht : t ≤ 24) (hm : m ≤ 24) (hH : rf_H lp ll (rf_L a t)) (hp : ∀ x, rf_mx (rf_QL a t m (rf_L a t)) x → post (nI x) (nI t, nI r, nI (rf_L a t).length, kn, a, lp, ll)) : ∀ (V2 V1 : List (Nat × Nat)) (x : Nat), rf_L a t = V1 ++ V2 → x ≤ 24 → rf_mx (rf_QL a t m V1) x → wY_longest_22 post (nI m) (nI t) (nI r) (nI (rf_L a t).length) kn a lp ll (V2.length + 1) (nI x) (nI V1.length) := by
  intro V2
  induction V2 with
  | nil =>
    intro V1 x hL hx hQ
    rw [List.append_nil] at hL
    have h3 := rf_L_300 (a := a) ht
    have hlen : V1.length = (rf_L a t).length := by rw [hL]
    refine pk_le (rf_L a t).length V1.length (fun _ => hp x ?_) (fun h => by omega)
    rw [hL]; exact hQ
  | cons e V2 ih =>
    intro V1 x hL hx hQ
    obtain ⟨l1, l2, l3, l4, l5⟩ := rf_Lat ht hH hL
    have hL2 : rf_L a t = (V1 ++ [e]) ++ V2 := by rw [hL, rf_mid]
    have nxt : ∀ y, y ≤ 24 → rf_mx (rf_QL a t m (V1 ++ [e])) y → wY_longest_22 post (nI m) (nI t) (nI r) (nI (rf_L a t).length) kn a lp ll (V2.length + 1) (nI y) (nI (V1.length + 1)) := by
      intro y hy hQ2
      have := ih (V1 ++ [e]) y hL2 hy hQ2
      rw [rf_len1] at this
      exact this
    have hi : vp_in (nI V1.length) 300 := pk_in V1.length 300 (by omega)
    have hc := rf_ct_le a t (rf_wd a e.1 e.2)
    refine pk_le (rf_L a t).length V1.length (fun h => by omega) (fun _ => ⟨hi, ?_⟩)
    rw [pk_cl V1.length, l1, l2]
    refine pk_le e.2 x (fun h => nm_r (nI_1 V1.length) (nxt x hx (rf_mxQ_keep hQ (Or.inl h)))) (fun h => ⟨hi, hi, ry_cnt ht l3.1 (by omega) ?_⟩)
    refine pk_lt (rf_ct a t (rf_wd a e.1 e.2)) m (fun g => nm_r (nI_1 V1.length) (nxt x hx (rf_mxQ_keep hQ (Or.inr (by omega))))) (fun g => ⟨hi, nm_e (nm_r (nI_1 V1.length) (nxt e.2 (by omega) (rf_mxQ_put hQ h g)))⟩)
theorem ry_lng {post : Int32 → SY → Prop} {a lp ll : Nat → Int32} {c kn : Int32} {t r m : Nat} (ht : t ≤ 24) (h1 : 1 ≤ m) (hm : m ≤ 24) (hk : rf_kn a t c kn lp ll) (hp : ∀ x lp ll, rf_H lp ll (rf_L a t) → rf_mx (rf_Q a t m) x → post (nI x) (nI t, nI r, nI (rf_L a t).length, 1, a, lp, ll)) : wpY_longest post (nI t, nI r, c, kn, a, lp, ll) (nI m) := by
  refine pk_lt m 1 (fun h => by omega) (fun _ => pk_le m 24 (fun _ => ry_list ht hk ?_) (fun h => by omega))
  intro lp ll hH
  refine ⟨(rf_L a t).length + 1, ry_lng22 ht hm hH (fun x hx => hp x lp ll hH (rf_mx_iff (fun n hn => rf_Q_iff ht hn) hx)) (rf_L a t) [] 0 rfl (by omega) ⟨Or.inl rfl, fun n hn hQ => ?_⟩⟩
  obtain ⟨e, he, _⟩ := hQ
  exact absurd he List.not_mem_nil
