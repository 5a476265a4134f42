theorem rx_sh12 {post : Int32 → SX → Prop} {a : Nat → Int32} {t r : Nat} (ht : t ≤ 24) (hp : post (nI (t - 1)) (nI (t - 1), nI r, rf_sh a (t - 1))) : ∀ d j : Nat, j + 1 + d = t → wX_shift_12 post (nI t) (nI r) (d + 1) (nI (j + 1)) (rf_sh a j) := by
  intro d
  induction d with
  | zero =>
    intro j hj
    have : t = j + 1 := by omega
    subst this
    exact pk_le (j + 1) (j + 1) (fun _ => nm_r (nI_pred j) hp) (fun h => by omega)
  | succ d ih =>
    intro j hj
    refine pk_le t (j + 1) (fun h => by omega) (fun _ => ⟨pk_in (j + 1) 36 (by omega), pk_in j 36 (by omega) (nI_pred j), nm_r ?_ (nm_r (nI_1 (j + 1)) (ih (j + 1) (by omega)))⟩)
    rw [nI_pred j, nI_clamp (n := j) (by omega), nI_clamp (n := j + 1) (by omega), rf_sh_s]
theorem ry_sh22 {post : Int32 → SY → Prop} {a lp ll : Nat → Int32} {c kn : Int32} {t r : Nat} (ht : t < 24) (hp : post (nI t) (nI t, nI r, c, 0, rf_sh a t, lp, ll)) : ∀ d j : Nat, j + d = t → wY_shift_22 post (nI t) (nI r) c kn (d + 1) (nI j) (rf_sh a j) lp ll := by
  intro d
  induction d with
  | zero =>
    intro j hj
    have : j = t := by omega
    subst this
    exact pk_le j j (fun _ => hp) (fun h => by omega)
  | succ d ih =>
    intro j hj
    refine pk_le t j (fun h => by omega) (fun _ => ⟨pk_in (j + 1) 36 (by omega) (nI_1 j), pk_in j 36 (by omega), nm_r ?_ (nm_r (nI_1 j) (ih (j + 1) (by omega)))⟩)
    rw [nI_1 j, nI_clamp (n := j) (by omega), nI_clamp (n := j + 1) (by omega), rf_sh_s]
