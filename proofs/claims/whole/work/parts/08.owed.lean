/-! the relation and what is owed -/
def i_Rel (_ : Nat) (u : SX) (v : SY) : Prop := u.1 = v.1 ∧ u.2.1 = v.2.1 ∧ (∀ c, u.1 c = 0 ∨ u.1 c = 1) ∧ ∃ l : Nat → Nat, ∀ c, l c ≤ 12 ∧ u.2.1 c = nI (l c)
theorem i_up {k : Nat} {u : SX} {v : SY} (h : i_Rel k u v) : i_Rel (k + 4) u v := h
theorem i_vc0 : wpX_init (fun u => wpY_init (fun v => i_Rel 0 u v)) := ⟨rfl, rfl, fun _ => Or.inl rfl, fun _ => 0, fun _ => ⟨Nat.zero_le _, rfl⟩⟩
theorem lf_R {k : Nat} {W L G H V Q A B C D : Nat → Int32} {l : Nat → Nat} (hW : ∀ c, W c = 0 ∨ W c = 1) (hl : ∀ c, l c ≤ 12 ∧ L c = nI (l c)) : i_Rel k (W, L, G, H, V, Q) (W, L, A, B, C, D) := ⟨rfl, rfl, hW, l, hl⟩
theorem lf_RE {k : Nat} {u : SX} {v : SY} (I : i_Rel k u v) : ∃ (W L G H V Q A B C D : Nat → Int32) (l : Nat → Nat), u = (W, L, G, H, V, Q) ∧ v = (W, L, A, B, C, D) ∧ (∀ c, W c = 0 ∨ W c = 1) ∧ ∀ c, l c ≤ 12 ∧ L c = nI (l c) := by
  obtain ⟨W, L, G, H, V, Q⟩ := u
  obtain ⟨W', L', A, B, C, D⟩ := v
  obtain ⟨e1, e2, hW, l, hl⟩ := I
  have e1' : W = W' := e1
  have e2' : L = L' := e2
  subst e1' e2'
  exact ⟨W, L, G, H, V, Q, A, B, C, D, l, rfl, rfl, hW, hl⟩
def lf_bit (x : Int32) : Int32 := if x = 0 then 0 else 1
theorem lf_bit0 {x : Int32} (h : x = 0) : lf_bit x = 0 := if_pos h
theorem lf_bit1 {x : Int32} (h : ¬ x = 0) : lf_bit x = 1 := if_neg h
theorem lf_xSolid {W L G H V Q : Nat → Int32} {post : Int32 → SX → Prop} {c : Nat} {x z : Int32} (hc : c < 216) (hz : x = 0 ∧ z = 0 ∨ ¬ x = 0 ∧ z = 1) (h : post (lf_bit (W c)) (upd W c z, L, G, H, V, Q)) : wpX_solid post (W, L, G, H, V, Q) (nI c) x := by
  have key : ∀ r, r = lf_bit (W c) → wX_solid_23 post (nI c) x r W L G H V Q := by
    intro r er
    subst er
    rcases hz with ⟨e, rfl⟩ | ⟨e, rfl⟩
    · exact br_t e ⟨lf_in hc, nm_r (e' := upd W c 0) (by rw [lf_c hc, lf_b0]) h⟩
    · exact br_f e ⟨lf_in hc, nm_r (e' := upd W c 1) (by rw [lf_c hc, lf_b1]) h⟩
  unfold wpX_solid
  dsimp only
  refine lf_xGood1 hc (br_f lf_10 ⟨lf_in hc, ?_⟩)
  rw [lf_c hc]
  exact br_c (fun w => key 0 (lf_bit0 w).symm) fun w => key 1 (lf_bit1 w).symm
theorem lf_ySolid {W L A B C D : Nat → Int32} {post : Int32 → SY → Prop} {c : Nat} {x z : Int32} (hc : c < 216) (hz : x = 0 ∧ z = 0 ∨ ¬ x = 0 ∧ z = 1) (h : post (lf_bit (W c)) (upd W c z, L, A, B, C, D)) : wpY_solid post (W, L, A, B, C, D) (nI c) x := by
  have key : ∀ r, r = lf_bit (W c) → wY_solid_24 post (nI c) x r W L A B C D := by
    intro r er
    subst er
    rcases hz with ⟨e, rfl⟩ | ⟨e, rfl⟩
    · exact br_t e ⟨lf_in hc, nm_r (e' := upd W c 0) (by rw [lf_c hc, lf_b0]) h⟩
    · exact br_f e ⟨lf_in hc, nm_r (e' := upd W c 1) (by rw [lf_c hc, lf_b1]) h⟩
  unfold wpY_solid
  dsimp only
  refine lf_yBad0 hc (br_t rfl ⟨lf_in hc, ?_⟩)
  rw [lf_c hc]
  exact br_c (fun w => key 0 (lf_bit0 w).symm) fun w => key 1 (lf_bit1 w).symm
theorem lf_flag (x : Int32) : ∃ z : Int32, (x = 0 ∧ z = 0 ∨ ¬ x = 0 ∧ z = 1) ∧ (z = 0 ∨ z = 1) := by
  by_cases h : x = 0
  · exact ⟨0, Or.inl ⟨h, rfl⟩, Or.inl rfl⟩
  · exact ⟨1, Or.inr ⟨h, rfl⟩, Or.inr rfl⟩
theorem i_vc_solid {k : Nat} {u : SX} {v : SY} (I : i_Rel k u v) (hk : k + 4 ≤ 2048) (v1 : Int32) (v2 : Int32) : wpX_solid (fun r u' => wpY_solid (fun r' v' => r' = r ∧ i_Rel (k + 4) u' v') v v1 v2) u v1 v2 := by
  obtain ⟨W, L, G, H, V, Q, A, B, C, D, l, rfl, rfl, hW, hl⟩ := lf_RE I
  rcases lf_ix v1 with bd | ⟨c, hc, rfl⟩
  · unfold wpX_solid
    dsimp only
    refine lf_xGood0 bd (br_t rfl ?_)
    unfold wpY_solid
    dsimp only
    exact lf_yBad1 bd (br_f lf_10 ⟨rfl, lf_R hW hl⟩)
  · obtain ⟨z, hz, z01⟩ := lf_flag v2
    exact lf_xSolid hc hz (lf_ySolid hc hz ⟨rfl, lf_R (lf_01U hW z01) hl⟩)
theorem i_vc_fill {k : Nat} {u : SX} {v : SY} (I : i_Rel k u v) (hk : k + 4 ≤ 2048) (v1 : Int32) (v2 : Int32) (v3 : Int32) : wpX_fill (fun r u' => wpY_fill (fun r' v' => r' = r ∧ i_Rel (k + 4) u' v') v v1 v2 v3) u v1 v2 v3 := by
  obtain ⟨W, L, G, H, V, Q, A, B, C, D, l, rfl, rfl, hW, hl⟩ := lf_RE I
  unfold wpX_fill
  dsimp only
  refine lf_xGB (fun g => br_f lf_10 ?_) fun g => br_t rfl ?_
  · obtain ⟨a, b, ha, hb, rfl, rfl, _⟩ := id g
    obtain ⟨z, hz, z01⟩ := lf_flag v3
    obtain ⟨r, W', k1, k2, k3⟩ := lf_fill ha hb hz 216 0 0 W rfl hW
    refine ⟨217, k2 _ L G H V Q ?_⟩
    unfold wpY_fill
    dsimp only
    exact lf_yGB (fun _ => br_t rfl ⟨217, k3 _ L A B C D ⟨rfl, lf_R k1 hl⟩⟩) fun n => absurd g n
  · unfold wpY_fill
    dsimp only
    exact lf_yGB (fun y => absurd y g) fun _ => br_f lf_10 ⟨rfl, lf_R hW hl⟩
theorem i_vc_shell {k : Nat} {u : SX} {v : SY} (I : i_Rel k u v) (hk : k + 4 ≤ 2048) (v1 : Int32) (v2 : Int32) : wpX_shell (fun r u' => wpY_shell (fun r' v' => r' = r ∧ i_Rel (k + 4) u' v') v v1 v2) u v1 v2 := by
  obtain ⟨W, L, G, H, V, Q, A, B, C, D, l, rfl, rfl, hW, hl⟩ := lf_RE I
  unfold wpX_shell
  dsimp only
  refine lf_xGB (fun g => br_f lf_10 ?_) fun g => br_t rfl ?_
  · obtain ⟨a, b, ha, hb, rfl, rfl, _⟩ := id g
    obtain ⟨r, W', k1, k2, k3⟩ := lf_shell ha hb 216 0 0 W rfl hW
    refine ⟨217, k2 _ L G H V Q ?_⟩
    unfold wpY_shell
    dsimp only
    exact lf_yGB (fun _ => br_t rfl ⟨217, k3 _ L A B C D ⟨rfl, lf_R k1 hl⟩⟩) fun n => absurd g n
  · unfold wpY_shell
    dsimp only
    exact lf_yGB (fun y => absurd y g) fun _ => br_f lf_10 ⟨rfl, lf_R hW hl⟩
theorem i_vc_lamp {k : Nat} {u : SX} {v : SY} (I : i_Rel k u v) (hk : k + 4 ≤ 2048) (v1 : Int32) (v2 : Int32) : wpX_lamp (fun r u' => wpY_lamp (fun r' v' => r' = r ∧ i_Rel (k + 4) u' v') v v1 v2) u v1 v2 := by
  obtain ⟨W, L, G, H, V, Q, A, B, C, D, l, rfl, rfl, hW, hl⟩ := lf_RE I
  unfold wpX_lamp wpY_lamp
  dsimp only
  rcases lf_ix v1 with bd | ⟨c, hc, rfl⟩
  · exact lf_xGood0 bd (br_t rfl (lf_yBad1 bd (br_f lf_10 ⟨rfl, lf_R hW hl⟩)))
  refine lf_xGood1 hc (br_f lf_10 ?_)
  by_cases s0 : v2 < 0
  · exact br_t s0 (lf_yBad0 hc (br_t rfl (br_t s0 ⟨rfl, lf_R hW hl⟩)))
  by_cases s12 : v2 ≤ 12
  · refine br_f s0 (br_t s12 ⟨lf_in hc, nm_e ⟨lf_in hc, nm_e ?_⟩⟩)
    refine lf_yBad0 hc (br_t rfl (br_f s0 (br_t s12 ⟨lf_in hc, nm_e ⟨lf_in hc, nm_e ⟨rfl, ?_⟩⟩⟩)))
    obtain ⟨j, hj, rfl⟩ := nI_of2 (M := 12) (n := 12) (by decide) s0 s12
    rw [lf_c hc]
    refine lf_R (l := lf_u l c j) hW fun x => ?_
    by_cases e : x = c
    · rw [e, pk_us, lf_us]
      exact ⟨hj, rfl⟩
    · rw [pk_un e, lf_uo e]
      exact hl x
  · exact br_f s0 (br_f s12 (lf_yBad0 hc (br_t rfl (br_f s0 (br_f s12 ⟨rfl, lf_R hW hl⟩)))))
theorem i_vc_isSolid {k : Nat} {u : SX} {v : SY} (I : i_Rel k u v) (hk : k + 4 ≤ 2048) (v1 : Int32) : wpX_isSolid (fun r => wpY_isSolid (fun r' => r' = r ∧ i_Rel (k + 4) u v) v v1) u v1 := by
  obtain ⟨W, L, G, H, V, Q, A, B, C, D, l, rfl, rfl, hW, hl⟩ := lf_RE I
  unfold wpX_isSolid wpY_isSolid
  dsimp only
  rcases lf_ix v1 with bd | ⟨c, hc, rfl⟩
  · exact lf_xGood0 bd (br_t rfl (lf_yBad1 bd (br_f lf_10 ⟨rfl, lf_R hW hl⟩)))
  refine lf_xGood1 hc (br_f lf_10 ⟨lf_in hc, br_c (fun w => ?_) fun w => ?_⟩)
  · exact lf_yBad0 hc (br_t rfl ⟨lf_in hc, br_t w ⟨rfl, lf_R hW hl⟩⟩)
  · exact lf_yBad0 hc (br_t rfl ⟨lf_in hc, br_f w ⟨rfl, lf_R hW hl⟩⟩)
/-- the light that there is, by lamps and by the sky -/
theorem lf_both (W : Nat → Int32) {l : Nat → Nat} (h : ∀ c, l c ≤ 12) : ∃ Fa Fb, lf_L W l Fa ∧ lf_L W (lf_wo l (-1)) Fa ∧ lf_L W (lf_s8 W) Fb ∧ (∀ c, c < 216 → Fa c ≤ 12) ∧ ∀ c, c < 216 → Fb c ≤ 12 := by
  obtain ⟨Fa, ha⟩ := lf_ex W (s := l) fun c _ => h c
  obtain ⟨Fb, hb⟩ := lf_ex W (s := lf_s8 W) fun c _ => lf_s812 W c
  exact ⟨Fa, Fb, ha, lf_congr (fun c hc => (lf_woM hc).symm) ha, hb, fun c hc => lf_top (fun c _ => h c) ha hc, fun c hc => lf_top (fun c _ => lf_s812 W c) hb hc⟩
theorem i_vc_lamplight {k : Nat} {u : SX} {v : SY} (I : i_Rel k u v) (hk : k + 4 ≤ 2048) (v1 : Int32) : wpX_lamplight (fun r u' => wpY_lamplight (fun r' v' => r' = r ∧ i_Rel (k + 4) u' v') v v1) u v1 := by
  obtain ⟨W, L, G, H, V, Q, A, B, C, D, l, rfl, rfl, hW, hl⟩ := lf_RE I
  obtain ⟨Fa, Fb, ha, ha', hb, a12, b12⟩ := lf_both W fun c => (hl c).1
  unfold wpX_lamplight wpY_lamplight
  dsimp only
  rcases lf_ix v1 with bd | ⟨c, hc, rfl⟩
  · exact lf_xGood0 bd (br_t rfl (lf_yBad1 bd (br_f lf_10 ⟨rfl, lf_R hW hl⟩)))
  refine lf_xGood1 hc (br_f lf_10 ?_)
  refine lf_xDarkenA fun G1 k1 => ?_
  refine lf_xAddLampsA hl k1 fun G2 k2 => ?_
  refine lf_xSpreadA (fun c _ => lf_wo12 (fun c => (hl c).1) (-1) c) ha' k2 fun G3 k3 => ⟨lf_in hc, ?_⟩
  refine lf_yBad0 hc (br_t rfl ?_)
  refine lf_yShine hl ha hb fun A' B' kA kB => ⟨lf_in hc, ?_, lf_R hW hl⟩
  rw [lf_c hc]
  exact (kA c hc).trans (k3 c hc).symm
theorem i_vc_skylight {k : Nat} {u : SX} {v : SY} (I : i_Rel k u v) (hk : k + 4 ≤ 2048) (v1 : Int32) : wpX_skylight (fun r u' => wpY_skylight (fun r' v' => r' = r ∧ i_Rel (k + 4) u' v') v v1) u v1 := by
  obtain ⟨W, L, G, H, V, Q, A, B, C, D, l, rfl, rfl, hW, hl⟩ := lf_RE I
  obtain ⟨Fa, Fb, ha, ha', hb, a12, b12⟩ := lf_both W fun c => (hl c).1
  unfold wpX_skylight wpY_skylight
  dsimp only
  rcases lf_ix v1 with bd | ⟨c, hc, rfl⟩
  · exact lf_xGood0 bd (br_t rfl (lf_yBad1 bd (br_f lf_10 ⟨rfl, lf_R hW hl⟩)))
  refine lf_xGood1 hc (br_f lf_10 ?_)
  refine lf_xDarkenA fun G1 k1 => ?_
  refine lf_xAddSkyA (f := fun _ => 0) (fun _ _ => Nat.zero_le _) k1 fun G2 k2 => ?_
  refine lf_xSpreadA (s := lf_s8 W) (fun c _ => lf_s812 W c) hb (lf_eqC k2 fun c _ => ?_) fun G3 k3 => ⟨lf_in hc, ?_⟩
  · show max 0 (lf_s8 W c) = lf_s8 W c
    omega
  refine lf_yBad0 hc (br_t rfl ?_)
  refine lf_yShine hl ha hb fun A' B' kA kB => ⟨lf_in hc, ?_, lf_R hW hl⟩
  rw [lf_c hc]
  exact (kB c hc).trans (k3 c hc).symm
theorem i_vc_lit {k : Nat} {u : SX} {v : SY} (I : i_Rel k u v) (hk : k + 4 ≤ 2048) (v1 : Int32) (v2 : Int32) (v3 : Int32) : wpX_lit (fun r u' => wpY_lit (fun r' v' => r' = r ∧ i_Rel (k + 4) u' v') v v1 v2 v3) u v1 v2 v3 := by
  obtain ⟨W, L, G, H, V, Q, A, B, C, D, l, rfl, rfl, hW, hl⟩ := lf_RE I
  obtain ⟨Fa, Fb, ha, ha', hb, a12, b12⟩ := lf_both W fun c => (hl c).1
  unfold wpX_lit
  dsimp only
  refine lf_xGB (fun g => br_f lf_10 ?_) fun g => br_t rfl ?_
  · refine lf_xLightA hl ha' hb fun G1 k1 => ?_
    obtain ⟨a, b, ca, cb, rfl, rfl, _⟩ := id g
    refine lf_xLit ca cb k1 ?_
    unfold wpY_lit
    dsimp only
    refine lf_yGB (fun _ => br_t rfl ?_) fun n => absurd g n
    exact lf_yShine hl ha hb fun A' B' kA kB => lf_yLit ca cb kA kB a12 b12 ⟨rfl, lf_R hW hl⟩
  · unfold wpY_lit
    dsimp only
    exact lf_yGB (fun y => absurd y g) fun _ => br_f lf_10 ⟨rfl, lf_R hW hl⟩
theorem i_vc_dim {k : Nat} {u : SX} {v : SY} (I : i_Rel k u v) (hk : k + 4 ≤ 2048) (v1 : Int32) : wpX_dim (fun r u' => wpY_dim (fun r' v' => r' = r ∧ i_Rel (k + 4) u' v') v v1) u v1 := by
  obtain ⟨W, L, G, H, V, Q, A, B, C, D, l, rfl, rfl, hW, hl⟩ := lf_RE I
  obtain ⟨Fa, Fb, ha, ha', hb, a12, b12⟩ := lf_both W fun c => (hl c).1
  unfold wpX_dim wpY_dim
  dsimp only
  by_cases s0 : v1 < 0
  · exact br_t s0 (br_t s0 ⟨rfl, lf_R hW hl⟩)
  by_cases s12 : v1 ≤ 12
  · refine br_f s0 (br_t s12 (lf_xLightA hl ha' hb fun G1 k1 => lf_xDim k1 ?_))
    refine br_f s0 (br_t s12 ?_)
    exact lf_yShine hl ha hb fun A' B' kA kB => lf_yDim kA kB a12 b12 ⟨rfl, lf_R hW hl⟩
  · exact br_f s0 (br_f s12 (br_f s0 (br_f s12 ⟨rfl, lf_R hW hl⟩)))
theorem i_vc_darkest {k : Nat} {u : SX} {v : SY} (I : i_Rel k u v) (hk : k + 4 ≤ 2048) : wpX_darkest (fun r u' => wpY_darkest (fun r' v' => r' = r ∧ i_Rel (k + 4) u' v') v) u := by
  obtain ⟨W, L, G, H, V, Q, A, B, C, D, l, rfl, rfl, hW, hl⟩ := lf_RE I
  obtain ⟨Fa, Fb, ha, ha', hb, a12, b12⟩ := lf_both W fun c => (hl c).1
  obtain ⟨r, k2, k3⟩ := lf_dark (W := W) a12 b12 216 0 (-1) 13 rfl (Or.inl ⟨rfl, rfl⟩)
  unfold wpX_darkest wpY_darkest
  dsimp only
  refine lf_xLightA hl ha' hb fun G1 k1 => ⟨217, k2 _ L G1 H V Q k1 ?_⟩
  exact lf_yShine hl ha hb fun A' B' kA kB => ⟨217, k3 _ L A' B' C D kA kB ⟨rfl, lf_R hW hl⟩⟩
theorem i_vc_faces {k : Nat} {u : SX} {v : SY} (I : i_Rel k u v) (hk : k + 4 ≤ 2048) : wpX_faces (fun r => wpY_faces (fun r' => r' = r ∧ i_Rel (k + 4) u v) v) u := by
  obtain ⟨W, L, G, H, V, Q, A, B, C, D, l, rfl, rfl, hW, hl⟩ := lf_RE I
  exact lf_xFac (lf_yFac ⟨rfl, lf_R hW hl⟩)
theorem i_vc_shady {k : Nat} {u : SX} {v : SY} (I : i_Rel k u v) (hk : k + 4 ≤ 2048) (v1 : Int32) : wpX_shady (fun r u' => wpY_shady (fun r' v' => r' = r ∧ i_Rel (k + 4) u' v') v v1) u v1 := by
  obtain ⟨W, L, G, H, V, Q, A, B, C, D, l, rfl, rfl, hW, hl⟩ := lf_RE I
  obtain ⟨Fa, Fb, ha, ha', hb, a12, b12⟩ := lf_both W fun c => (hl c).1
  unfold wpX_shady wpY_shady
  dsimp only
  refine lf_xLightA hl ha' hb fun G1 k1 => lf_xSha k1 ?_
  exact lf_yShine hl ha hb fun A' B' kA kB => lf_ySha kA kB a12 b12 ⟨rfl, lf_R hW hl⟩
theorem i_vc_open {k : Nat} {u : SX} {v : SY} (I : i_Rel k u v) (hk : k + 4 ≤ 2048) : wpX_open (fun r => wpY_open (fun r' => r' = r ∧ i_Rel (k + 4) u v) v) u := by
  obtain ⟨W, L, G, H, V, Q, A, B, C, D, l, rfl, rfl, hW, hl⟩ := lf_RE I
  exact lf_xOpen (lf_yOpen ⟨rfl, lf_R hW hl⟩)
theorem lf_yS16 {W L A B C : Nat → Int32} {post : Int32 → SY → Prop} {c : Nat} {l fa fb Fa Fb : Nat → Nat} (hc : c < 216) (hl : ∀ c, l c ≤ 12 ∧ L c = nI (l c)) (hA : lf_eq A fa) (hB : lf_eq B fb) (a12 : ∀ c, c < 216 → fa c ≤ 12) (b12 : ∀ c, c < 216 → fb c ≤ 12) (La : lf_L W (lf_u l c 0) Fa) (Lb : lf_L W (lf_s8 W) Fb) (hp : ∀ A' B' D', post (nI (lf_cn (lf_pSrv (fun x => max (fa x) (fb x)) (fun x => max (Fa x) (Fb x))) 216)) (W, L, A', B', C, D')) : ∀ (n i : Nat) (D : Nat → Int32), 216 - i < n → i ≤ 216 → (∀ x, x < i → D x = nI (max (fa x) (fb x))) → wY_serves_16 post (nI c) n (nI i) W L A B C D := by
  have l0 : ∀ x, lf_u l c 0 x ≤ 12 ∧ upd L c 0 x = nI (lf_u l c 0 x) := by
    intro x
    by_cases e : x = c
    · rw [e, pk_us, lf_us]
      exact ⟨Nat.zero_le _, rfl⟩
    · rw [pk_un e, lf_uo e]
      exact hl x
  have back : upd (upd L c 0) c (L c) = L := by
    funext x
    by_cases e : x = c
    · rw [e, pk_us]
    · rw [pk_un e, pk_un e]
  intro n
  induction n with
  | zero => intro i D h; omega
  | succ n ih =>
    intro i D hn hi hD
    refine pk_le 216 i (fun h => ?_) fun h => ?_
    · rw [lf_c hc]
      refine ⟨lf_in hc, nm_e ⟨lf_in hc, nm_e ?_⟩⟩
      refine lf_yShine l0 La Lb fun A' B' kA kB => ⟨lf_in hc, nm_r back ?_⟩
      exact lf_ySrv (fun x hx => by have := a12 x hx; have := b12 x hx; show max (fa x) (fb x) ≤ 12; omega) (fun x hx => hD x (by omega)) kA kB (fun x hx => lf_top (fun x _ => (l0 x).1) La hx) (fun x hx => lf_top (fun x _ => lf_s812 W x) Lb hx) (hp A' B' D)
    · refine lf_yLight h hA hB (a12 i h) (b12 i h) ⟨lf_in h, nm_r (e' := upd D i (nI (max (fa i) (fb i)))) (by rw [lf_c h]) (nm_r (nI_1 i) ?_)⟩
      refine ih (i + 1) _ (by omega) h fun x hx => ?_
      by_cases e : x = i
      · rw [e, pk_us]
      · rw [pk_un e]
        exact hD x (by omega)
theorem i_vc_serves {k : Nat} {u : SX} {v : SY} (I : i_Rel k u v) (hk : k + 4 ≤ 2048) (v1 : Int32) : wpX_serves (fun r u' => wpY_serves (fun r' v' => r' = r ∧ i_Rel (k + 4) u' v') v v1) u v1 := by
  obtain ⟨W, L, G, H, V, Q, A, B, C, D, l, rfl, rfl, hW, hl⟩ := lf_RE I
  obtain ⟨Fa, Fb, ha, ha', hb, a12, b12⟩ := lf_both W fun c => (hl c).1
  unfold wpX_serves wpY_serves
  dsimp only
  rcases lf_ix v1 with bd | ⟨c, hc, rfl⟩
  · exact lf_xGood0 bd (br_t rfl (lf_yBad1 bd (br_f lf_10 ⟨rfl, lf_R hW hl⟩)))
  have w12 : ∀ x, lf_wo l (nI c) x ≤ 12 := lf_wo12 (fun c => (hl c).1) (nI c)
  obtain ⟨Fw, hw⟩ := lf_ex W (s := lf_wo l (nI c)) fun x _ => w12 x
  have hw' : lf_L W (lf_u l c 0) Fw := lf_congr (fun x hx => by
    by_cases e : x = c
    · rw [e, lf_us]
      exact lf_wo1 rfl
    · rw [lf_uo e]
      exact lf_wo0 fun k => e (lf_inj hx hc k)) hw
  refine lf_xGood1 hc (br_f lf_10 ?_)
  refine lf_xLightA hl ha' hb fun G1 k1 => ?_
  refine lf_xLightB hl hw hb fun H1 k2 => ?_
  refine lf_xSrv (fun x hx => ?_) (fun x hx => ?_) k1 k2 ?_
  · have := a12 x hx
    have := b12 x hx
    show max (Fa x) (Fb x) ≤ 12
    omega
  · have := lf_top (fun x _ => w12 x) hw hx
    have := b12 x hx
    show max (Fw x) (Fb x) ≤ 12
    omega
  refine lf_yBad0 hc (br_t rfl ?_)
  refine lf_yShine hl ha hb fun A' B' kA kB => ⟨217, ?_⟩
  exact lf_yS16 hc hl kA kB a12 b12 hw' hb (fun A'' B'' D'' => ⟨rfl, lf_R hW hl⟩) 217 0 D (by omega) (by omega) fun x hx => absurd hx (Nat.not_lt_zero x)
theorem i_vc_rooms {k : Nat} {u : SX} {v : SY} (I : i_Rel k u v) (hk : k + 4 ≤ 2048) : wpX_rooms (fun r u' => wpY_rooms (fun r' v' => r' = r ∧ i_Rel (k + 4) u' v') v) u := by
  obtain ⟨W, L, G, H, V, Q, A, B, C, D, l, rfl, rfl, hW, hl⟩ := lf_RE I
  exact lf_xRooms fun V' Q' => lf_yRooms fun C' => ⟨rfl, lf_R hW hl⟩
