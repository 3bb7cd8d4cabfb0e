-- Row: what its methods do, told whole.
def r_get (n : Nat) (v : XM) (i : Int32) : Int32 := if 0 ≤ i.toInt ∧ i.toInt < n then v.1 1 i.toNatClampNeg else 0
def r_put (n : Nat) (v : XM) (i x : Int32) : XM := if 0 ≤ i.toInt ∧ i.toInt < n then x_si v 1 i.toNatClampNeg x else v
def r_add (n : Nat) (v : XM) (i x : Int32) : XM := if 0 ≤ i.toInt ∧ i.toInt < n then x_si v 1 i.toNatClampNeg (v.1 1 i.toNatClampNeg + x) else v
def r_fill (n : Nat) (v : XM) (x : Int32) : XM := (fun id k => if id = 1 ∧ k < n then x else v.1 id k, v.2)
def r_bec (n m : Nat) (v u : XM) : XM := (fun id k => if id = 1 ∧ k < n then (if k < m then u.1 1 k else 0) else v.1 id k, v.2)
theorem x_in_iff {x : Int32} {n : Nat} : vp_in x n ↔ 0 ≤ x.toInt ∧ x.toInt < n := vp_in_iff
theorem x_ck_in {β : Type} {i : Int32} {n : Nat} {k : Option β} (h : 0 ≤ i.toInt ∧ i.toInt < n) : x_ck i n k = k := if_neg (vp_in_iff.mpr h)
theorem i_lt0 (i : Int32) : i < (0 : Int32) ↔ i.toInt < 0 := by rw [Int32.lt_iff_toInt_lt]; rfl
theorem i_len {n : Nat} (hn : n < 2 ^ 31) (i : Int32) : (Int32.ofNat n) ≤ i ↔ (n : Int) ≤ i.toInt := by
  rw [Int32.le_iff_toInt_le]
  rw [show (Int32.ofNat n).toInt = (n : Int) from nI_toInt hn]
theorem f_get_eq {n : Nat} (hn : n < 2 ^ 31) (v : XM) (i : Int32) : f_X3_get n v i = some (r_get n v i) := by
  unfold f_X3_get r_get
  by_cases h1 : i < (0 : Int32)
  · rw [if_pos h1, if_neg (by rw [i_lt0] at h1; omega)]
  · rw [if_neg h1]
    by_cases h2 : (Int32.ofNat n) ≤ i
    · rw [if_pos h2, if_neg (by rw [i_len hn] at h2; omega)]
    · rw [i_lt0] at h1
      rw [if_neg h2]
      rw [i_len hn] at h2
      rw [x_ck_in (by omega), if_pos (by omega)]
      rfl
theorem f_put_eq {n : Nat} (hn : n < 2 ^ 31) (v : XM) (i x : Int32) : f_X3_put n v i x = some (r_put n v i x) := by
  unfold f_X3_put r_put
  by_cases h1 : i < (0 : Int32)
  · rw [if_pos h1, if_neg (by rw [i_lt0] at h1; omega)]
  · rw [if_neg h1]
    by_cases h2 : (Int32.ofNat n) ≤ i
    · rw [if_pos h2, if_neg (by rw [i_len hn] at h2; omega)]
    · rw [i_lt0] at h1
      rw [if_neg h2]
      rw [i_len hn] at h2
      rw [x_ck_in (by omega), if_pos (by omega)]
      rfl
theorem f_add_eq {n : Nat} (hn : n < 2 ^ 31) (v : XM) (i x : Int32) : f_X3_add n v i x = some (r_add n v i x) := by
  unfold f_X3_add r_add
  by_cases h1 : i < (0 : Int32)
  · rw [if_pos h1, if_neg (by rw [i_lt0] at h1; omega)]
  · rw [if_neg h1]
    by_cases h2 : (Int32.ofNat n) ≤ i
    · rw [if_pos h2, if_neg (by rw [i_len hn] at h2; omega)]
    · rw [i_lt0] at h1
      rw [if_neg h2]
      rw [i_len hn] at h2
      rw [x_ck_in (by omega), x_ck_in (by omega), if_pos (by omega)]
      rfl
theorem fill_loop {n : Nat} (hn : n < 2 ^ 31) (x : Int32) : ∀ (m i : Nat) (w : XM) (fu : Nat), i + m = n → m < fu → x_lp (fun _ _ _ => none) (f_X3_fill_2 n) fu w x (nI i) = some (fun id k => if id = 1 ∧ i ≤ k ∧ k < n then x else w.1 id k, w.2) := by
  intro m
  induction m with
  | zero =>
    intro i w fu h1 h2
    obtain ⟨fu, rfl⟩ : ∃ q, fu = q + 1 := ⟨fu - 1, by omega⟩
    show f_X3_fill_2 n (x_lp _ _ fu) w x (nI i) = _
    generalize x_lp _ _ fu = K
    unfold f_X3_fill_2
    rw [if_pos (show Int32.ofNat n ≤ nI i from nI_le (a := n) (b := i) (by omega) (by omega))]
    refine congrArg some (Prod.ext ?_ rfl)
    funext id k
    exact (if_neg (by omega)).symm
  | succ m ih =>
    intro i w fu h1 h2
    obtain ⟨fu, rfl⟩ : ∃ q, fu = q + 1 := ⟨fu - 1, by omega⟩
    have ih := ih (i + 1) (x_pa w 1 (nI i) x) fu (by omega) (by omega)
    show f_X3_fill_2 n (x_lp _ _ fu) w x (nI i) = _
    generalize x_lp _ _ fu = K at ih ⊢
    unfold f_X3_fill_2
    have hi := nI_toInt (n := i) (by omega)
    rw [if_neg (show ¬ Int32.ofNat n ≤ nI i from nI_ge (a := i) (b := n) (by omega) hn), x_ck_in (by omega)]
    show K (x_pa w 1 (nI i) x) x (nI i + 1) = _
    rw [nI_1, ih]
    congr 2
    funext id k
    show (if id = 1 ∧ i + 1 ≤ k ∧ k < n then x else if id = 1 ∧ k = (nI i).toNatClampNeg then x else w.1 id k) = _
    rw [nI_clamp (by omega)]
    by_cases c1 : id = 1 ∧ i + 1 ≤ k ∧ k < n
    · rw [if_pos c1, if_pos (by omega)]
    · rw [if_neg c1]
      by_cases c2 : id = 1 ∧ k = i
      · rw [if_pos c2, if_pos (by omega)]
      · rw [if_neg c2, if_neg (by omega)]
theorem f_fill_eq {n : Nat} (hn : n < 1000000) (v : XM) (x : Int32) : f_X3_fill n v x = some (r_fill n v x) := by
  unfold f_X3_fill
  have h := fill_loop (n := n) (by omega) x n 0 v x_NN (by omega) (by unfold x_NN; omega)
  rw [show nI 0 = 0 from rfl] at h
  rw [h]
  congr 2
  funext id k
  by_cases c : id = 1 ∧ k < n
  · rw [if_pos c, if_pos (by omega)]
  · rw [if_neg c, if_neg (by omega)]
theorem bec_loop {n n1 : Nat} (hn : n < 2 ^ 31) (hn1 : n1 < 2 ^ 31) (u : XM) : ∀ (m i : Nat) (w : XM) (fu : Nat), i + m = n → m < fu → x_lp (fun _ _ => none) (f_X3_become_2 n n1 u) fu w (nI i) = some (fun id k => if id = 1 ∧ i ≤ k ∧ k < n then (if k < n1 then u.1 1 k else 0) else w.1 id k, w.2) := by
  intro m
  induction m with
  | zero =>
    intro i w fu h1 h2
    obtain ⟨fu, rfl⟩ : ∃ q, fu = q + 1 := ⟨fu - 1, by omega⟩
    show f_X3_become_2 n n1 u (x_lp _ _ fu) w (nI i) = _
    generalize x_lp _ _ fu = K
    unfold f_X3_become_2
    rw [if_pos (show Int32.ofNat n ≤ nI i from nI_le (a := n) (b := i) (by omega) (by omega))]
    refine congrArg some (Prod.ext ?_ rfl)
    funext id k
    exact (if_neg (by omega)).symm
  | succ m ih =>
    intro i w fu h1 h2
    obtain ⟨fu, rfl⟩ : ∃ q, fu = q + 1 := ⟨fu - 1, by omega⟩
    have ih := ih (i + 1) (x_pa w 1 (nI i) (r_get n1 u (nI i))) fu (by omega) (by omega)
    show f_X3_become_2 n n1 u (x_lp _ _ fu) w (nI i) = _
    generalize x_lp _ _ fu = K at ih ⊢
    unfold f_X3_become_2
    have hi := nI_toInt (n := i) (by omega)
    rw [if_neg (show ¬ Int32.ofNat n ≤ nI i from nI_ge (a := i) (b := n) (by omega) hn), f_get_eq hn1]
    simp only [x_bo]
    rw [x_ck_in (by omega)]
    show K (x_pa w 1 (nI i) (r_get n1 u (nI i))) (nI i + 1) = _
    rw [nI_1, ih]
    congr 2
    funext id k
    show (if id = 1 ∧ i + 1 ≤ k ∧ k < n then _ else if id = 1 ∧ k = (nI i).toNatClampNeg then r_get n1 u (nI i) else w.1 id k) = _
    unfold r_get
    rw [nI_clamp (by omega), hi]
    by_cases c1 : id = 1 ∧ i + 1 ≤ k ∧ k < n
    · rw [if_pos c1, if_pos (show id = 1 ∧ i ≤ k ∧ k < n by omega)]
    · rw [if_neg c1]
      by_cases c2 : id = 1 ∧ k = i
      · rw [if_pos c2, if_pos (show id = 1 ∧ i ≤ k ∧ k < n by omega), c2.2]
        by_cases c3 : i < n1
        · rw [if_pos c3, if_pos (by omega)]
        · rw [if_neg c3, if_neg (by omega)]
      · rw [if_neg c2, if_neg (by omega)]
theorem f_bec_eq {n n1 : Nat} (hn : n < 1000000) (hn1 : n1 < 1000000) (v u : XM) : f_X3_become n n1 v u = some (r_bec n n1 v u) := by
  unfold f_X3_become
  have h := bec_loop (n := n) (n1 := n1) (by omega) (by omega) u n 0 v x_NN (by omega) (by unfold x_NN; omega)
  rw [show nI 0 = 0 from rfl] at h
  rw [h]
  congr 2
  funext id k
  by_cases c : id = 1 ∧ k < n
  · rw [if_pos c, if_pos (by omega)]
  · rw [if_neg c, if_neg (by omega)]
-- their contracts, told whole
theorem ct_get {l : Launch} {ad0 : Nat → Nat} {n0 : Nat} {v0 : XM} {x0 o : Int32} (hn : n0 < 1000000) (h : r_get n0 v0 x0 = o) : CT l yX3_get cX3_get 2 (some .int) 0 [((shRow n0), ad0)] [v0] (fun aK => [.ref (ad0 0), .int x0]) (some (.int o)) True [v0] := c_X3_get (by rw [f_get_eq (by omega), h])
theorem ct_put {l : Launch} {ad0 : Nat → Nat} {n0 : Nat} {v0 o : XM} {x0 x1 : Int32} (hn : n0 < 1000000) (h : r_put n0 v0 x0 x1 = o) : CT l yX3_put cX3_put 3 none 0 [((shRow n0), ad0)] [v0] (fun aK => [.ref (ad0 0), .int x0, .int x1]) none True [o] := c_X3_put (by rw [f_put_eq (by omega), h])
theorem ct_add {l : Launch} {ad0 : Nat → Nat} {n0 : Nat} {v0 o : XM} {x0 x1 : Int32} (hn : n0 < 1000000) (h : r_add n0 v0 x0 x1 = o) : CT l yX3_add cX3_add 3 none 0 [((shRow n0), ad0)] [v0] (fun aK => [.ref (ad0 0), .int x0, .int x1]) none True [o] := c_X3_add (by rw [f_add_eq (by omega), h])
theorem ct_fill {l : Launch} {ad0 : Nat → Nat} {n0 : Nat} {v0 o : XM} {x0 : Int32} (hn : n0 < 1000000) (h : r_fill n0 v0 x0 = o) : CT l yX3_fill cX3_fill 3 none 0 [((shRow n0), ad0)] [v0] (fun aK => [.ref (ad0 0), .int x0]) none True [o] := c_X3_fill (by rw [f_fill_eq (by omega), h])
theorem ct_bec {l : Launch} {ad0 ad1 : Nat → Nat} {n0 n1 : Nat} {v0 v1 o : XM} (hn : n0 < 1000000) (hn1 : n1 < 1000000) (h : r_bec n0 n1 v0 v1 = o) : CT l yX3_become cX3_become 3 none 1 [((shRow n0), ad0), ((shRow n1), ad1)] [v0, v1] (fun aK => [.ref (ad0 0), .ref (ad1 0)]) none True [o, v1] := c_X3_become (by rw [f_bec_eq hn hn1, h])
