/-! ===== what is owed, a method each ===== -/
theorem i_vc_add {k : Nat} {u : SX} {v : SY} (I : i_Rel k u v) (hk : k + 3 ≤ 1536) (v1 : Int32) : wpX_add (fun r u' => wpY_add (fun r' v' => r' = r ∧ i_Rel (k + 3) u' v') v v1) u v1 := by
  have J := I
  obtain ⟨pr, zs, ag, ar⟩ := u
  obtain ⟨th, ge, he, ot⟩ := v
  obtain ⟨P, g, R, ⟨hP, hb, e1, e2, hg, hA, B, q⟩, ht, hy⟩ := I
  obtain rfl : pr = nI P := e1
  obtain rfl : zs = nI (bb_Z P g 6) := e2
  unfold wpX_add
  try dsimp only
  by_cases c : bn_P v1
  · obtain ⟨f, hf, rfl⟩ := c
    refine xa_pp hf (br_f (by decide) ⟨7, ?_⟩)
    refine xb_al hP _ ar hg (fun i hi hbi hl ar' R' hA' B' q' => ?_) (fun hl => ?_) 6 0 rfl (fun j hj => absurd hj (Nat.not_lt_zero j))
    · unfold wpY_add
      try dsimp only
      refine ya_pp hf (br_f (by decide) ⟨i + 1, ?_⟩)
      refine yb_a1 ge he ot ht hi hbi hl ⟨rfl, ?_⟩ i 0 (by omega)
      refine ⟨P ||| 2 ^ i, bb_up g i f, R', ⟨bn_P2 hP hi, ?_, rfl, rfl, ?_, hA', B', q'⟩, ?_, ?_⟩
      · intro j hj c
        by_cases e : j = i
        · subst e
          rw [bb_ups]
          exact hf
        · rw [bb_upn _ _ e]
          rw [bn_o2 e] at c
          exact hb j hj c
      · intro j hj c
        show upd ag i (nI f) j = _
        by_cases e : j = i
        · subst e
          rw [pk_us, bb_ups]
        · rw [pk_un e, bb_upn _ _ e]
          rw [bn_o2 e] at c
          exact hg j hj c
      · intro j hj
        show upd th i 1 j = _
        by_cases e : j = i
        · subst e
          rw [pk_us, bn_o1]
          rfl
        · rw [pk_un e, bn_o2 e]
          exact ht j hj
      · intro j hj c
        show upd ge i (nI f) j = _
        by_cases e : j = i
        · subst e
          rw [pk_us, bb_ups]
        · rw [pk_un e, bb_upn _ _ e]
          rw [bn_o2 e] at c
          exact hy j hj c
    · unfold wpY_add
      try dsimp only
      refine ya_pp hf (br_f (by decide) ⟨7, ?_⟩)
      exact yb_a0 ge he ot ht hl ⟨rfl, J⟩ 6 0 rfl
  · refine xa_np c (br_t rfl ?_)
    unfold wpY_add
    try dsimp only
    exact ya_np c (br_t rfl ⟨rfl, J⟩)
theorem i_vc_remove {k : Nat} {u : SX} {v : SY} (I : i_Rel k u v) (hk : k + 3 ≤ 1536) (v1 : Int32) : wpX_remove (fun r u' => wpY_remove (fun r' v' => r' = r ∧ i_Rel (k + 3) u' v') v v1) u v1 := by
  have J := I
  obtain ⟨pr, zs, ag, ar⟩ := u
  obtain ⟨th, ge, he, ot⟩ := v
  obtain ⟨P, g, R, ⟨hP, hb, e1, e2, hg, hA, B, q⟩, ht, hy⟩ := I
  obtain rfl : pr = nI P := e1
  obtain rfl : zs = nI (bb_Z P g 6) := e2
  unfold wpX_remove
  try dsimp only
  refine xa_ig hP _ ag ar (fun c => ?_) (fun i hi c e => ?_)
  · exact ya_g ht (fun _ => ⟨rfl, J⟩) (fun i hi d e => absurd ⟨i, hi, d, e⟩ c)
  · subst e
    rw [bn_pow (by omega), bn_not _ (by omega)]
    have hP2 : P &&& (65535 ^^^ 2 ^ i) < 64 := Nat.lt_of_le_of_lt Nat.and_le_left hP
    have hbit : ∀ j, j < 6 → (P &&& (65535 ^^^ 2 ^ i)).testBit j = true → j ≠ i ∧ P.testBit j = true := by
      intro j hj d
      by_cases e : j = i
      · subst e
        rw [bn_r1 hj] at d
        exact absurd d (by decide)
      · rw [bn_r2 hj e] at d
        exact ⟨e, d⟩
    refine nm_e (xa_wo (g := g) (by omega) (fun j hj d => hg j hj (hbit j hj d).2) (fun ar' R' hA' B' q' => ?_))
    refine ya_g ht (fun n => absurd ⟨i, hi, c, rfl⟩ n) (fun j hj d e => ⟨vp_in_nI hi (by omega), ?_⟩)
    rw [nI_clamp (by omega), bn_bF]
    refine nm_e ⟨rfl, P &&& (65535 ^^^ 2 ^ i), g, R', ⟨hP2, fun j hj d => hb j hj (hbit j hj d).2, rfl, rfl, fun j hj d => hg j hj (hbit j hj d).2, hA', B', q'⟩, ?_, fun j hj d => hy j hj (hbit j hj d).2⟩
    intro j hj
    show upd th i 0 j = _
    by_cases e : j = i
    · subst e
      rw [pk_us, bn_r1 hj]
      rfl
    · rw [pk_un e, bn_r2 hj e]
      exact ht j hj
theorem i_vc_generators {k : Nat} {u : SX} {v : SY} (I : i_Rel k u v) (hk : k + 3 ≤ 1536) : wpX_generators (fun r => wpY_generators (fun r' => r' = r ∧ i_Rel (k + 3) u v) v) u := by
  have J := I
  obtain ⟨pr, zs, ag, ar⟩ := u
  obtain ⟨th, ge, he, ot⟩ := v
  obtain ⟨P, g, R, ⟨hP, hb, e1, e2, hg, hA, B, q⟩, ht, hy⟩ := I
  obtain rfl : pr = nI P := e1
  unfold wpX_generators
  try dsimp only
  have z := yb_g (post := fun r' => r' = nI P ∧ i_Rel (k + 3) (nI P, zs, ag, ar) (th, ge, he, ot)) hP ge he ot ht ⟨rfl, J⟩ 6 0 rfl
  rw [bb_mo0] at z
  exact ⟨7, z⟩
theorem i_vc_product {k : Nat} {u : SX} {v : SY} (I : i_Rel k u v) (hk : k + 3 ≤ 1536) (v1 : Int32) (v2 : Int32) : wpX_product (fun r => wpY_product (fun r' => r' = r ∧ i_Rel (k + 3) u v) v v1 v2) u v1 v2 := by
  have J := I
  obtain ⟨pr, zs, ag, ar⟩ := u
  obtain ⟨th, ge, he, ot⟩ := v
  unfold wpX_product
  try dsimp only
  by_cases c1 : bn_P v1
  · obtain ⟨f, hf, rfl⟩ := c1
    refine xa_pp hf (br_f (by decide) ?_)
    by_cases c2 : bn_P v2
    · obtain ⟨g, hg, rfl⟩ := c2
      refine xa_pp hg (br_f (by decide) ?_)
      refine xa_T (xa_T (nm_r (nx_and _ _) (xa_T ?_)))
      exact ya_pd hf hg ⟨rfl, J⟩
    · refine xa_np c2 (br_t rfl ?_)
      unfold wpY_product
      try dsimp only
      exact ya_pp hf (br_f (by decide) (ya_np c2 (br_t rfl ⟨rfl, J⟩)))
  · refine xa_np c1 (br_t rfl ?_)
    unfold wpY_product
    try dsimp only
    exact ya_np c1 (br_t rfl ⟨rfl, J⟩)
theorem i_vc_value {k : Nat} {u : SX} {v : SY} (I : i_Rel k u v) (hk : k + 3 ≤ 1536) (v1 : Int32) (v2 : Int32) : wpX_value (fun r => wpY_value (fun r' => r' = r ∧ i_Rel (k + 3) u v) v v1 v2) u v1 v2 := by
  have J := I
  obtain ⟨pr, zs, ag, ar⟩ := u
  obtain ⟨th, ge, he, ot⟩ := v
  unfold wpX_value
  try dsimp only
  by_cases c1 : bn_P v1
  · obtain ⟨f, hf, rfl⟩ := c1
    refine xa_pp hf (br_f (by decide) ?_)
    rcases bn_ix v2 16 with h | ⟨j, hj, hl, rfl⟩ | ⟨j, hj, hl, rfl⟩
    · refine br_t h ?_
      unfold wpY_value
      try dsimp only
      exact ya_pp hf (br_f (by decide) (br_t h ⟨rfl, J⟩))
    · refine br_f (nI_pos hl) (br_f (nI_nlt (a := j) (b := 16) hj hl) ?_)
      unfold wpY_value
      try dsimp only
      exact ya_pp hf (br_f (by decide) (br_f (nI_pos hl) (br_f (nI_ge (a := 15) (b := j) (by omega) hl) ⟨rfl, J⟩)))
    · refine br_f (nI_pos hl) (br_t (nI_lt (a := j) (b := 16) hj (by omega)) ?_)
      refine xa_T ?_
      have l := bb_Tb hf
      rw [bn_sh (by omega) (by omega)]
      exact ya_v hf hj ⟨rfl, J⟩
  · refine xa_np c1 (br_t rfl ?_)
    unfold wpY_value
    try dsimp only
    exact ya_np c1 (br_t rfl ⟨rfl, J⟩)
theorem i_vc_contains {k : Nat} {u : SX} {v : SY} (I : i_Rel k u v) (hk : k + 3 ≤ 1536) (v1 : Int32) : wpX_contains (fun r => wpY_contains (fun r' v' => r' = r ∧ i_Rel (k + 3) u v') v v1) u v1 := by
  have J := I
  obtain ⟨pr, zs, ag, ar⟩ := u
  obtain ⟨th, ge, he, ot⟩ := v
  obtain ⟨P, g, R, ⟨hP, hb, e1, e2, hg, hA, B, q⟩, ht, hy⟩ := I
  obtain rfl : pr = nI P := e1
  obtain rfl : zs = nI (bb_Z P g 6) := e2
  unfold wpX_contains
  try dsimp only
  by_cases c : bn_P v1
  · obtain ⟨f, hf, rfl⟩ := c
    refine xa_pp hf (br_f (by decide) ?_)
    refine xa_van hf (bb_Zb P g 6) (fun hV => br_f (by decide) ?_) (fun hV => br_t rfl ?_)
    · unfold wpY_contains
      try dsimp only
      refine rl_r hb ⟨ht, hy⟩ hf (fun he' R' hA' B' => ?_)
      exact bn_z (bb_rb B' hf) (fun _ => ⟨rfl, J⟩) (fun z => absurd ((bb_in B' hf).mpr hV) z)
    · unfold wpY_contains
      try dsimp only
      refine rl_r hb ⟨ht, hy⟩ hf (fun he' R' hA' B' => ?_)
      exact bn_z (bb_rb B' hf) (fun z => absurd ((bb_in B' hf).mp z) hV) (fun _ => ⟨rfl, J⟩)
  · refine xa_np c (br_t rfl ?_)
    unfold wpY_contains
    try dsimp only
    exact rl_rn c (br_f (by decide) ⟨rfl, J⟩)
theorem i_vc_rest {k : Nat} {u : SX} {v : SY} (I : i_Rel k u v) (hk : k + 3 ≤ 1536) (v1 : Int32) : wpX_rest (fun r => wpY_rest (fun r' v' => r' = r ∧ i_Rel (k + 3) u v') v v1) u v1 := by
  have J := I
  obtain ⟨pr, zs, ag, ar⟩ := u
  obtain ⟨th, ge, he, ot⟩ := v
  obtain ⟨P, g, R, ⟨hP, hb, e1, e2, hg, hA, B, q⟩, ht, hy⟩ := I
  unfold wpX_rest
  try dsimp only
  by_cases c : bn_P v1
  · obtain ⟨f, hf, rfl⟩ := c
    refine xa_pp hf (br_f (by decide) ?_)
    refine xa_rd hA (bb_Rb B) hf ?_
    refine rl_r hb ⟨ht, hy⟩ hf (fun he' R' hA' B' => ?_)
    exact ⟨congrArg nI (bb_rq B' B hf), J⟩
  · exact xa_np c (br_t rfl (rl_rn c ⟨rfl, J⟩))
theorem i_vc_basisSize {k : Nat} {u : SX} {v : SY} (I : i_Rel k u v) (hk : k + 3 ≤ 1536) : wpX_basisSize (fun r => wpY_basisSize (fun r' v' => r' = r ∧ i_Rel (k + 3) u v') v) u := by
  have J := I
  obtain ⟨pr, zs, ag, ar⟩ := u
  obtain ⟨th, ge, he, ot⟩ := v
  obtain ⟨P, g, R, ⟨hP, hb, e1, e2, hg, hA, B, q⟩, ht, hy⟩ := I
  refine ⟨17, xb_bs (U := rl_U R) (rl_Uh R) (bb_Rb B) pr zs ag hA ?_ 16 0 rfl⟩
  unfold wpY_basisSize
  try dsimp only
  refine rl_w hb ⟨ht, hy⟩ (fun he' R' hA' B' => ?_)
  exact ⟨17, yb_bs (U := rl_U R) (rl_Uc B B') (bb_Rb B') th ge ot hA' ⟨rfl, J⟩ 16 0 rfl⟩
theorem i_vc_basisAt {k : Nat} {u : SX} {v : SY} (I : i_Rel k u v) (hk : k + 3 ≤ 1536) (v1 : Int32) : wpX_basisAt (fun r => wpY_basisAt (fun r' v' => r' = r ∧ i_Rel (k + 3) u v') v v1) u v1 := by
  have J := I
  obtain ⟨pr, zs, ag, ar⟩ := u
  obtain ⟨th, ge, he, ot⟩ := v
  obtain ⟨P, g, R, ⟨hP, hb, e1, e2, hg, hA, B, q⟩, ht, hy⟩ := I
  refine ⟨17, xb_ba (U := rl_U R) (rl_Uh R) (bb_Rb B) pr zs ag hA v1 16 0 0 rfl ?_⟩
  unfold wpY_basisAt
  try dsimp only
  refine rl_w hb ⟨ht, hy⟩ (fun he' R' hA' B' => ?_)
  refine ⟨17, yb_ba (U := rl_U R) (A := fun j => nI (R j)) (rl_Uc B B') (bb_Rb B') ?_ th ge ot hA' v1 16 0 0 rfl ⟨rfl, J⟩⟩
  intro m hm um
  refine congrArg nI (bb_at B B' q hm ?_)
  intro z
  rw [(rl_Uh R m hm).mp z] at um
  exact absurd um (by decide)
theorem i_vc_bound {k : Nat} {u : SX} {v : SY} (I : i_Rel k u v) (hk : k + 3 ≤ 1536) : wpX_bound (fun r => wpY_bound (fun r' v' => r' = r ∧ i_Rel (k + 3) u v') v) u := by
  have J := I
  obtain ⟨pr, zs, ag, ar⟩ := u
  obtain ⟨th, ge, he, ot⟩ := v
  obtain ⟨P, g, R, ⟨hP, hb, e1, e2, hg, hA, B, q⟩, ht, hy⟩ := I
  refine ⟨17, xb_bu (U := rl_U R) (rl_Uh R) (bb_Rb B) pr zs ag hA ?_ 16 0 rfl⟩
  unfold wpY_bound
  try dsimp only
  refine rl_w hb ⟨ht, hy⟩ (fun he' R' hA' B' => ?_)
  exact ⟨17, yb_bu (U := rl_U R) (rl_Uc B B') (bb_Rb B') th ge ot hA' ⟨rfl, J⟩ 16 0 rfl⟩
theorem i_vc_zeros {k : Nat} {u : SX} {v : SY} (I : i_Rel k u v) (hk : k + 3 ≤ 1536) : wpX_zeros (fun r => wpY_zeros (fun r' => r' = r ∧ i_Rel (k + 3) u v) v) u := by
  have J := I
  obtain ⟨pr, zs, ag, ar⟩ := u
  obtain ⟨th, ge, he, ot⟩ := v
  obtain ⟨P, g, R, ⟨hP, hb, e1, e2, hg, hA, B, q⟩, ht, hy⟩ := I
  obtain rfl : zs = nI (bb_Z P g 6) := e2
  unfold wpX_zeros
  try dsimp only
  exact ya_z ht (fun i hi c => ⟨hy i hi c, hb i hi c⟩) ⟨rfl, J⟩
theorem i_vc_zeroCount {k : Nat} {u : SX} {v : SY} (I : i_Rel k u v) (hk : k + 3 ≤ 1536) : wpX_zeroCount (fun r => wpY_zeroCount (fun r' => r' = r ∧ i_Rel (k + 3) u v) v) u := by
  have J := I
  obtain ⟨pr, zs, ag, ar⟩ := u
  obtain ⟨th, ge, he, ot⟩ := v
  obtain ⟨P, g, R, ⟨hP, hb, e1, e2, hg, hA, B, q⟩, ht, hy⟩ := I
  obtain rfl : zs = nI (bb_Z P g 6) := e2
  unfold wpX_zeroCount
  try dsimp only
  refine ⟨17, xb_ct (bb_Zb P g 6) ?_ 16 0 rfl⟩
  unfold wpY_zeroCount
  try dsimp only
  refine ya_z ht (fun i hi c => ⟨hy i hi c, hb i hi c⟩) ?_
  exact ⟨17, yb_ct th ge he ot (bb_Zb P g 6) ⟨rfl, J⟩ 16 0 rfl⟩
theorem i_vc_values {k : Nat} {u : SX} {v : SY} (I : i_Rel k u v) (hk : k + 3 ≤ 1536) (v1 : Int32) : wpX_values (fun r => wpY_values (fun r' => r' = r ∧ i_Rel (k + 3) u v) v v1) u v1 := by
  have J := I
  obtain ⟨pr, zs, ag, ar⟩ := u
  obtain ⟨th, ge, he, ot⟩ := v
  obtain ⟨P, g, R, ⟨hP, hb, e1, e2, hg, hA, B, q⟩, ht, hy⟩ := I
  obtain rfl : zs = nI (bb_Z P g 6) := e2
  unfold wpX_values
  try dsimp only
  rcases bn_ix v1 4 with h | ⟨j, hj, hl, rfl⟩ | ⟨j, hj, hl, rfl⟩
  · refine br_t h ?_
    unfold wpY_values
    try dsimp only
    refine ya_z ht (fun i hi c => ⟨hy i hi c, hb i hi c⟩) ⟨1, ?_⟩
    exact pk_le 16 0 (fun l => absurd l (by omega)) (fun _ => br_t h ⟨rfl, J⟩)
  · refine br_f (nI_pos hl) (br_f (nI_nlt (a := j) (b := 4) hj hl) ?_)
    unfold wpY_values
    try dsimp only
    refine ya_z ht (fun i hi c => ⟨hy i hi c, hb i hi c⟩) ⟨1, ?_⟩
    exact pk_le 16 0 (fun l => absurd l (by omega)) (fun _ => br_f (nI_pos hl) (br_t (nI_lt (a := 3) (b := j) (by omega) hl) ⟨rfl, J⟩))
  · refine br_f (nI_pos hl) (br_t (nI_lt (a := j) (b := 4) hj (by omega)) ?_)
    refine ⟨17, xb_sv (bb_Zb P g 6) pr ag ar hj ?_ 16 0 rfl⟩
    unfold wpY_values
    try dsimp only
    refine ya_z ht (fun i hi c => ⟨hy i hi c, hb i hi c⟩) ?_
    exact ⟨17, yb_sv (bb_Zb P g 6) th ge he ot hj ⟨rfl, J⟩ 16 0 rfl⟩
theorem i_vc_redundant {k : Nat} {u : SX} {v : SY} (I : i_Rel k u v) (hk : k + 3 ≤ 1536) (v1 : Int32) : wpX_redundant (fun r => wpY_redundant (fun r' v' => r' = r ∧ i_Rel (k + 3) u v') v v1) u v1 := by
  have J := I
  obtain ⟨pr, zs, ag, ar⟩ := u
  obtain ⟨th, ge, he, ot⟩ := v
  obtain ⟨P, g, R, ⟨hP, hb, e1, e2, hg, hA, B, q⟩, ht, hy⟩ := I
  obtain rfl : pr = nI P := e1
  obtain rfl : zs = nI (bb_Z P g 6) := e2
  unfold wpX_redundant
  try dsimp only
  refine xa_ig hP _ ag ar (fun c => ?_) (fun i hi c e => ?_)
  · exact ya_g ht (fun _ => ⟨rfl, J⟩) (fun i hi d e => absurd ⟨i, hi, d, e⟩ c)
  · subst e
    rw [bn_pow (by omega), bn_not _ (by omega)]
    have hP2 : P &&& (65535 ^^^ 2 ^ i) < 64 := Nat.lt_of_le_of_lt Nat.and_le_left hP
    have hbit : ∀ j, j < 6 → (P &&& (65535 ^^^ 2 ^ i)).testBit j = true → j ≠ i ∧ P.testBit j = true := by
      intro j hj d
      by_cases e : j = i
      · subst e
        rw [bn_r1 hj] at d
        exact absurd d (by decide)
      · rw [bn_r2 hj e] at d
        exact ⟨e, d⟩
    have hnb : ∀ j, j < 6 → (P &&& (65535 ^^^ 2 ^ i)).testBit j = false → th j = 0 ∨ nI j = nI i := by
      intro j hj d
      by_cases e : j = i
      · exact Or.inr (congrArg nI e)
      · rw [bn_r2 hj e] at d
        exact Or.inl (rl_t0 ht hj d)
    refine xa_cz (g := g) (by omega) (fun j hj d => hg j hj (hbit j hj d).2) ⟨vp_in_nI hi (by omega), ?_⟩
    have gx : ag i = nI (g i) := hg i hi c
    have gy : ge i = nI (g i) := hy i hi c
    rw [nI_clamp (by omega), gx]
    have hw : ∀ (post : SY → Prop), (∀ he' R', bn_A he' R' → bb_B (bb_V (bb_Z (P &&& (65535 ^^^ 2 ^ i)) g 6)) R' → post (th, ge, he', ot)) → wpY_work post (th, ge, he, ot) (nI i) := by
      intro post hp
      refine ya_w (fun j hj d => ⟨rl_t1 ht hj (hbit j hj d).2, ?_, hy j hj (hbit j hj d).2, hb j hj (hbit j hj d).2⟩) hnb hp
      rw [nI_eq (by omega) (by omega)]
      exact (hbit j hj d).1
    have gi := hb i hi c
    refine xa_van gi (bb_Zb _ g 6) (fun hV => ⟨rfl, ?_⟩) (fun hV => ⟨rfl, ?_⟩)
    · refine ya_g ht (fun n => absurd ⟨i, hi, c, rfl⟩ n) (fun j hj d e => ?_)
      refine hw _ (fun he' R' hA' B' => ⟨vp_in_nI hi (by omega), ?_⟩)
      rw [nI_clamp (by omega), gy]
      refine ya_rd hA' (bb_Rb B') gi ?_
      exact bn_z (bb_rb B' gi) (fun _ => ⟨rfl, J⟩) (fun z => absurd ((bb_in B' gi).mpr hV) z)
    · refine ya_g ht (fun n => absurd ⟨i, hi, c, rfl⟩ n) (fun j hj d e => ?_)
      refine hw _ (fun he' R' hA' B' => ⟨vp_in_nI hi (by omega), ?_⟩)
      rw [nI_clamp (by omega), gy]
      refine ya_rd hA' (bb_Rb B') gi ?_
      exact bn_z (bb_rb B' gi) (fun z => absurd ((bb_in B' gi).mp z) hV) (fun _ => ⟨rfl, J⟩)
theorem i_vc_relates {k : Nat} {u : SX} {v : SY} (I : i_Rel k u v) (hk : k + 3 ≤ 1536) (v1 : Int32) : wpX_relates (fun r => wpY_relates (fun r' v' => r' = r ∧ i_Rel (k + 3) u v') v v1) u v1 := by
  have J := I
  obtain ⟨pr, zs, ag, ar⟩ := u
  obtain ⟨th, ge, he, ot⟩ := v
  obtain ⟨P, g, R, ⟨hP, hb, e1, e2, hg, hA, B, q⟩, ht, hy⟩ := I
  obtain rfl : zs = nI (bb_Z P g 6) := e2
  unfold wpX_relates
  try dsimp only
  rcases bn_ix v1 16 with h | ⟨j, hj, hl, rfl⟩ | ⟨j, hj, hl, rfl⟩
  · refine br_t h ?_
    unfold wpY_relates
    try dsimp only
    exact br_t h ⟨rfl, J⟩
  · refine br_f (nI_pos hl) (br_f (nI_nlt (a := j) (b := 16) hj hl) ?_)
    unfold wpY_relates
    try dsimp only
    exact br_f (nI_pos hl) (br_f (nI_ge (a := 15) (b := j) (by omega) hl) ⟨rfl, J⟩)
  · refine br_f (nI_pos hl) (br_t (nI_lt (a := j) (b := 16) hj (by omega)) ?_)
    refine ⟨17, xb_re (bb_Zb P g 6) pr ag ar hj (fun c => ?_) (fun c => ?_) 16 0 rfl⟩
    · unfold wpY_relates
      try dsimp only
      refine br_f (nI_pos hl) (br_t (nI_le (a := j) (b := 15) (by omega) (by omega)) ?_)
      refine rl_w hb ⟨ht, hy⟩ (fun he' R' hA' B' => ?_)
      refine ⟨17, ya_rc th ge hA' B' hj (fun K ot' => ?_) (fun _ ot' => ⟨rfl, J⟩) 16 0 ot rfl fun i hi => absurd hi (Nat.not_lt_zero i)⟩
      exact absurd c ((bb_rel hj).mpr ((bb_Kr B').mp K))
    · unfold wpY_relates
      try dsimp only
      refine br_f (nI_pos hl) (br_t (nI_le (a := j) (b := 15) (by omega) (by omega)) ?_)
      refine rl_w hb ⟨ht, hy⟩ (fun he' R' hA' B' => ?_)
      refine ⟨17, ya_rc th ge hA' B' hj (fun _ ot' => ⟨rfl, J⟩) (fun j16 ot' => ?_) 16 0 ot rfl fun i hi => absurd hi (Nat.not_lt_zero i)⟩
      obtain ⟨w, w0, hW, hr⟩ := (bb_Kr B').mpr ((bb_rel hj).mp c)
      exact absurd (j16 w hW hr) w0
