/-! the walks of rooms -/
def lf_pRm (W : Nat → Int32) (c : Nat) : Prop := W c = 0 ∧ lf_ls W c
section
variable {W L G H : Nat → Int32}
theorem lf_x33 {post : SX → Prop} {J : Int32 → Int32 → (Nat → Int32) → (Nat → Int32) → (Nat → Int32) → (Nat → Int32) → (Nat → Int32) → (Nat → Int32) → Prop} {V0 : Nat → Int32} {st tk x : Nat} (hx : x < 216) (wx : W x = 0) (kx : lf_conn W st x) (htk : tk < 216) (hJ : ∀ (wt : Nat) (V' Q' : Nat → Int32), lf_Bf W V0 st (tk + 1) wt (fun _ => False) V' Q' → tk + 1 ≤ wt → wt ≤ 216 → J (nI wt) (nI (tk + 1)) W L G H V' Q') : ∀ (n s wt : Nat) (V Q : Nat → Int32), 6 - s < n → s ≤ 6 → lf_Bf W V0 st (tk + 1) wt (fun y => y = x) V Q → tk < wt → wt ≤ 216 → Q tk = nI x → (∀ t, t < s → ∀ b, lf_n x t = some b → W b = 0 → V b ≠ 0) → wX_visitRoom_33 post J (nI tk) n (nI wt) (nI s) W L G H V Q := by
  intro n
  induction n with
  | zero => intro s wt V Q h; omega
  | succ n ih =>
    intro s wt V Q hn hs bf hw h216 hq hd
    refine pk_le 6 s (fun h => nm_r (nI_1 tk) (hJ wt V Q (lf_bfD bf fun t ht => hd t (by omega)) hw h216)) fun h => ⟨lf_in htk, ?_⟩
    rw [lf_c htk, hq]
    have nxt : ∀ V' : Nat → Int32, (∀ y, V y ≠ 0 → V' y ≠ 0) → (∀ b, lf_n x s = some b → W b = 0 → V' b ≠ 0) → ∀ t, t < s + 1 → ∀ b, lf_n x t = some b → W b = 0 → V' b ≠ 0 := by
      intro V' up k t ht b e w
      by_cases et : t = s
      · subst et
        exact k b e w
      · exact up b (hd t (by omega) b e w)
    have stay : (∀ b, lf_n x s = some b → W b = 0 → V b ≠ 0) → wX_visitRoom_33 post J (nI tk) n (nI wt) (nI (s + 1)) W L G H V Q := fun k => ih (s + 1) wt V Q (by omega) h bf hw h216 hq (nxt V (fun _ y => y) k)
    refine lf_xNb hx h (fun e => lf_xFreeN (br_t rfl (nm_r (nI_1 s) (stay fun b e' => ?_)))) fun d e => ?_
    · rw [e] at e'
      exact nomatch e'
    have d216 := (lf_nm hx h e).1
    have one : ∀ b, lf_n x s = some b → b = d := by
      intro b e'
      rw [e] at e'
      injection e' with e'
      exact e'.symm
    refine lf_xFree d216 (fun w => br_f lf_10 ⟨lf_in d216, ?_⟩) fun w => br_t rfl (nm_r (nI_1 s) (stay fun b e' w' => absurd (one b e' ▸ w') w))
    rw [lf_c d216]
    refine br_c (fun v => ?_) fun v => nm_r (nI_1 s) (stay fun b e' _ => (one b e').symm ▸ v)
    obtain ⟨lt, bf'⟩ := lf_bfM bf hx kx wx ⟨s, h, e⟩ w v hw
    refine br_f (nI_ge (b := 216) lt (by decide)) ⟨lf_in d216, nm_r (e' := upd V d 1) (by rw [lf_b1]) ⟨lf_in lt, nm_r (e' := upd Q wt (nI d)) (by rw [lf_c lt]) (nm_r (nI_1 wt) (nm_r (nI_1 s) ?_))⟩⟩
    refine ih (s + 1) (wt + 1) _ _ (by omega) h bf' (by omega) lt (by rw [pk_un (by omega)]; exact hq) (nxt _ (fun y hy => ?_) fun b e' _ => ?_)
    · by_cases ey : y = d
      · rw [ey, pk_us]
        exact lf_10
      · rw [pk_un ey]
        exact hy
    · rw [one b e', pk_us]
      exact lf_10
theorem lf_x18 {post : SX → Prop} {V0 : Nat → Int32} {st : Nat} (hp : ∀ (tk wt : Nat) (V' Q' : Nat → Int32), lf_Bf W V0 st tk wt (fun _ => False) V' Q' → wt ≤ tk → post (W, L, G, H, V', Q')) : ∀ (n tk wt : Nat) (V Q : Nat → Int32), 216 - tk < n → tk ≤ wt → wt ≤ 216 → lf_Bf W V0 st tk wt (fun _ => False) V Q → wX_visitRoom_18 post n (nI wt) (nI tk) W L G H V Q := by
  intro n
  induction n with
  | zero => intro tk wt V Q h; omega
  | succ n ih =>
    intro tk wt V Q hn hw h216 bf
    refine pk_le wt tk (fun h => hp tk wt V Q bf h) fun h => br_f (nI_ge (b := 216) (by omega) (by decide)) ⟨7, ?_⟩
    obtain ⟨x, hx, qx, wx, _, kx⟩ := bf.1 tk h
    exact lf_x33 hx wx kx (by omega) (fun wt' V' Q' bf' h1 h2 => ih (tk + 1) wt' V' Q' (by omega) h1 h2 bf') 7 0 wt V Q (by omega) (by omega) (lf_bfT bf qx hx) h h216 qx fun t ht => absurd ht (Nat.not_lt_zero t)
theorem lf_xVisit {post : SX → Prop} {V Q : Nat → Int32} {i : Nat} (rm : lf_Rm W i V) (hi : i < 216) (wi : W i = 0) (hp : ∀ V' Q', lf_Rm W (i + 1) V' → post (W, L, G, H, V', Q')) : wpX_visitRoom post (W, L, G, H, V, Q) (nI i) := by
  unfold wpX_visitRoom
  dsimp only
  refine ⟨lf_in hi, nm_r (e' := upd V i 1) (by rw [lf_c hi, lf_b1]) (nm_e ⟨217, ?_⟩)⟩
  exact lf_x18 (V0 := V) (st := i) (fun tk wt V' Q' bf h => hp V' Q' (lf_rmS rm hi bf h)) 217 0 1 _ _ (by omega) (by omega) (by omega) (lf_bf0 rm hi wi)
theorem lf_xR26 {post : Int32 → SX → Prop} (hp : ∀ V' Q', post (nI (lf_cn (lf_pRm W) 216)) (W, L, G, H, V', Q')) : ∀ (n i : Nat) (V Q : Nat → Int32), 216 - i < n → i ≤ 216 → lf_Rm W i V → wX_rooms_26 post n (nI (lf_cn (lf_pRm W) i)) (nI i) W L G H V Q := by
  intro n
  induction n with
  | zero => intro i V Q h; omega
  | succ n ih =>
    intro i V Q hn hi rm
    refine pk_le 216 i (fun h => ?_) fun h => ?_
    · have e : i = 216 := by omega
      subst e
      exact hp V Q
    have iff := lf_rmI rm h
    have no : ¬ (V i = 0 ∧ W i = 0) → wX_rooms_26 post n (nI (lf_cn (lf_pRm W) i)) (nI (i + 1)) W L G H V Q := by
      intro k
      have z := ih (i + 1) V Q (by omega) h (lf_rmN rm fun w v => k ⟨v, w⟩)
      rw [lf_cn_f (p := lf_pRm W) fun q => k (iff.mpr q)] at z
      exact z
    refine lf_xFree h (fun w => br_f lf_10 ⟨lf_in h, ?_⟩) fun w => br_t rfl (nm_r (nI_1 i) (no fun q => w q.2))
    rw [lf_c h]
    refine br_c (fun v => lf_xVisit rm h w fun V' Q' rm' => nm_r (nI_1 _) (nm_r (nI_1 i) ?_)) fun v => nm_r (nI_1 i) (no fun q => v q.1)
    have z := ih (i + 1) V' Q' (by omega) h rm'
    rw [lf_cn_t (p := lf_pRm W) (iff.mp ⟨v, w⟩)] at z
    exact z
theorem lf_xR2 {post : Int32 → SX → Prop} {Q : Nat → Int32} (hp : ∀ V' Q', post (nI (lf_cn (lf_pRm W) 216)) (W, L, G, H, V', Q')) : ∀ (n i : Nat) (V : Nat → Int32), 216 - i < n → i ≤ 216 → (∀ c, c < i → V c = 0) → wX_rooms_2 post n (nI i) W L G H V Q := by
  intro n
  induction n with
  | zero => intro i V h; omega
  | succ n ih =>
    intro i V hn hi hV
    refine pk_le 216 i (fun h => ⟨217, ?_⟩) fun h => ⟨lf_in h, nm_r (e' := upd V i 0) (by rw [lf_c h, lf_b0]) (nm_r (nI_1 i) ?_)⟩
    · exact lf_xR26 hp 217 0 V Q (by omega) (by omega) (lf_rm0 fun c hc => hV c (by omega))
    · refine ih (i + 1) _ (by omega) h fun c hc => ?_
      by_cases e : c = i
      · rw [e, pk_us]
      · rw [pk_un e]
        exact hV c (by omega)
theorem lf_xRooms {post : Int32 → SX → Prop} {V Q : Nat → Int32} (hp : ∀ V' Q', post (nI (lf_cn (lf_pRm W) 216)) (W, L, G, H, V', Q')) : wpX_rooms post (W, L, G, H, V, Q) := ⟨217, lf_xR2 hp 217 0 V (by omega) (by omega) fun c hc => absurd hc (Nat.not_lt_zero c)⟩
end
/-! the reference -/
def lf_Lw (W : Nat → Int32) (l0 : Nat → Nat) (k : Nat) (l : Nat → Nat) : Prop := (∀ c, c < 216 → l c ≤ l0 c) ∧ lf_Lb W l ∧ ∀ j, j < k → ∀ d, lf_m (j / 6) (j % 6) = some d → W (j / 6) = 0 → W d = 0 → l (j / 6) ≤ l0 d
theorem lf_lwN {W : Nat → Int32} {l0 l : Nat → Nat} {k : Nat} (h : lf_Lw W l0 k l) (hk : k < 1296) (e : ∀ d, lf_m (k / 6) (k % 6) = some d → W (k / 6) = 0 → W d = 0 → l (k / 6) ≤ l d) : lf_Lw W l0 (k + 1) l := by
  refine ⟨h.1, h.2.1, fun j hj d em w w' => ?_⟩
  by_cases ej : j = k
  · subst ej
    exact Nat.le_trans (e d em w w') (h.1 d (lf_adj_in (by omega) (lf_adj_m em)))
  · exact h.2.2 j (by omega) d em w w'
theorem lf_lwS {W : Nat → Int32} {l0 l : Nat → Nat} {k d : Nat} (h : lf_Lw W l0 k l) (hk : k < 1296) (em : lf_m (k / 6) (k % 6) = some d) (w : W (k / 6) = 0) (w' : W d = 0) (lt : l d < l (k / 6)) : lf_Lw W l0 (k + 1) (lf_u l (k / 6) (l d)) := by
  have c216 : k / 6 < 216 := by omega
  have adj := lf_adj_m em
  have d216 := lf_adj_in c216 adj
  have dn : ∀ x, lf_u l (k / 6) (l d) x ≤ l x := by
    intro x
    by_cases ex : x = k / 6
    · rw [ex, lf_us]
      omega
    · rw [lf_uo ex]
      exact Nat.le_refl _
  refine ⟨fun x hx => Nat.le_trans (dn x) (h.1 x hx), fun x hx => ⟨Nat.le_trans (dn x) (h.2.1 x hx).1, ?_⟩, fun j hj d' em' v v' => ?_⟩
  · by_cases ex : x = k / 6
    · rw [ex, lf_us]
      exact lf_conn_t (lf_conn_s (lf_conn_r _) ⟨c216, adj, w, w'⟩) (h.2.1 d d216).2
    · rw [lf_uo ex]
      exact (h.2.1 x hx).2
  · by_cases ej : j = k
    · subst ej
      have e : d = d' := by
        rw [em] at em'
        injection em'
      subst e
      rw [lf_us]
      exact h.1 d d216
    · exact Nat.le_trans (dn _) (h.2.2 j (by omega) d' em' v v')
theorem lf_lwE {W : Nat → Int32} {l0 l : Nat → Nat} (h : lf_Lw W l0 1296 l) {c d : Nat} (s : lf_st W c d) : l c ≤ l0 d := by
  obtain ⟨t, ht, e⟩ := lf_adj_ex s.2.1
  have hc := s.1
  have e1 : (6 * c + t) / 6 = c := by omega
  have e2 : (6 * c + t) % 6 = t := by omega
  have k := h.2.2 (6 * c + t) (by omega) d
  rw [e1, e2] at k
  exact k e s.2.2.1 s.2.2.2
section
variable {W L A B D : Nat → Int32}
theorem lf_yLev4 {post : Int32 → SY → Prop} {l0 : Nat → Nat} (hp : ∀ m C' l, m = 0 ∨ m = 1 → lf_eq C' l → lf_Lw W l0 1296 l → (m = 0 → ∀ c, c < 216 → l c = l0 c) → post m (W, L, A, B, C', D)) : ∀ (n k : Nat) (m : Int32) (C : Nat → Int32) (l : Nat → Nat), 1296 - k < n → k ≤ 1296 → (m = 0 ∨ m = 1) → lf_eq C l → lf_Lw W l0 k l → (m = 0 → ∀ c, c < 216 → l c = l0 c) → wY_level_4 post n m (nI k) W L A B C D := by
  intro n
  induction n with
  | zero => intro k m C l h; omega
  | succ n ih =>
    intro k m C l hn hk hm hC lw hz
    refine pk_le 1296 k (fun h => ?_) fun h => ⟨by decide, nm_r (lf_d6 (by omega)) ⟨by decide, ?_⟩⟩
    · have e : k = 1296 := by omega
      subst e
      exact ⟨lf_nbool hm, hp m C l hm hC lw hz⟩
    have c216 : k / 6 < 216 := by omega
    have stay : (∀ d, lf_m (k / 6) (k % 6) = some d → W (k / 6) = 0 → W d = 0 → l (k / 6) ≤ l d) → wY_level_4 post n m (nI (k + 1)) W L A B C D := fun e => ih (k + 1) m C l (by omega) h hm hC (lf_lwN lw h e) hz
    rw [lf_r6 (c := k) (by omega)]
    refine lf_yNb c216 (by omega) (fun e => br_t (by decide) (nm_r (nI_1 k) (stay fun d e' => ?_))) fun d e => ?_
    · rw [e] at e'
      exact nomatch e'
    have d216 := lf_adj_in c216 (lf_adj_m e)
    have one : ∀ b, lf_m (k / 6) (k % 6) = some b → b = d := by
      intro b e'
      rw [e] at e'
      injection e' with e'
      exact e'.symm
    refine br_f (nI_pos (by omega)) ⟨lf_in c216, ?_⟩
    rw [lf_c c216]
    refine br_c (fun w => ⟨lf_in d216, ?_⟩) fun w => nm_r (nI_1 k) (stay fun _ _ w' => absurd w' w)
    rw [lf_c d216]
    refine br_c (fun w' => ⟨lf_in d216, lf_in c216, ?_⟩) fun w' => nm_r (nI_1 k) (stay fun b e' _ v => absurd (one b e' ▸ v) w')
    have x1 := (lw.2.1 d d216).1
    have x2 := (lw.2.1 _ c216).1
    rw [hC d d216, hC _ c216]
    refine pk_lt (l d) (l (k / 6)) (fun lt => ⟨lf_in d216, lf_in c216, nm_e (nm_r (nI_1 k) ?_)⟩) fun le => nm_r (nI_1 k) (stay fun b e' _ _ => ?_)
    · exact ih (k + 1) 1 _ _ (by omega) h (Or.inr rfl) (lf_eqU hC _ _) (lf_lwS lw h e w w' lt) fun z => absurd z lf_10
    · rw [one b e']
      exact le
theorem lf_yLevel {post : Int32 → SY → Prop} {C : Nat → Int32} {l0 : Nat → Nat} (hC : lf_eq C l0) (lb : lf_Lb W l0) (hp : ∀ m C' l, m = 0 ∨ m = 1 → lf_eq C' l → lf_Lw W l0 1296 l → (m = 0 → ∀ c, c < 216 → l c = l0 c) → post m (W, L, A, B, C', D)) : wpY_level post (W, L, A, B, C, D) := ⟨1297, lf_yLev4 hp 1297 0 0 C l0 (by omega) (by omega) (Or.inl rfl) hC ⟨fun _ _ => Nat.le_refl _, lb, fun j hj => absurd hj (Nat.not_lt_zero j)⟩ fun _ _ _ => rfl⟩
theorem lf_yR52 {post : Int32 → SY → Prop} {C : Nat → Int32} {l : Nat → Nat} (hC : lf_eq C l) (lb : lf_Lb W l) (hs : ∀ c, c < 216 → lf_set W l c) (hp : post (nI (lf_cn (lf_pRm W) 216)) (W, L, A, B, C, D)) : ∃ n, wY_rooms_52 post W L A B C D n 0 0 := by
  refine ⟨217, lf_cnt (lf_pRm W) 216 (fun n x i => wY_rooms_52 post W L A B C D n x (nI i)) (fun n => ?_) (fun n i h t z => ?_) 217 0 (by omega) (by omega)⟩
  · exact br_t (nI_le (b := 216) (Nat.le_refl _) (by decide)) hp
  · have iff := lf_set_ls h lb (hs i h)
    have li := (lb i h).1
    refine br_f (nI_ge (b := 216) h (by decide)) ⟨lf_in h, ?_⟩
    rw [lf_c h, hC i h]
    exact br_c (fun w => ⟨lf_in h, pk_eq (l i) i (fun q => nm_r (nI_1 _) (nm_r (nI_1 i) (t ⟨w, iff.mp q⟩))) fun q => nm_r (nI_1 i) (z fun q' => q (iff.mpr q'.2))⟩) fun w => nm_r (nI_1 i) (z fun q => w q.1)
theorem lf_yR26 {post : Int32 → SY → Prop} (hp : ∀ C', post (nI (lf_cn (lf_pRm W) 216)) (W, L, A, B, C', D)) : ∀ (n k : Nat) (m : Int32) (C : Nat → Int32) (l : Nat → Nat), 216 - k < n → k ≤ 216 → lf_eq C l → lf_Lb W l → k ≤ lf_cn (lf_set W l) 216 → (m = 0 → ∀ c, c < 216 → lf_set W l c) → wY_rooms_26 post n m (nI k) W L A B C D := by
  intro n
  induction n with
  | zero => intro k m C l h; omega
  | succ n ih =>
    intro k m C l hn hk hC lb hs hz
    refine pk_le 216 k (fun h => lf_yR52 hC lb (lf_cn_full (by omega)) (hp C)) fun h => ?_
    refine br_c (fun z => lf_yR52 hC lb (hz z) (hp C)) fun z => ?_
    refine lf_yLevel hC lb fun m' C' l' _ hC' lw hz' => nm_r (nI_1 k) ?_
    refine ih (k + 1) m' C' l' (by omega) h hC' lw.2.1 (lf_setS lb h hs lw.1 fun c d s => lf_lwE lw s) fun z' c hc => lf_set_all lw.2.1 (fun c d s => ?_) hc
    have := lf_lwE lw s
    rw [← hz' z' d (lf_adj_in s.1 s.2.1)] at this
    exact this
theorem lf_yR2 {post : Int32 → SY → Prop} (hp : ∀ C', post (nI (lf_cn (lf_pRm W) 216)) (W, L, A, B, C', D)) : ∀ (n i : Nat) (C : Nat → Int32), 216 - i < n → i ≤ 216 → (∀ c, c < i → C c = nI c) → wY_rooms_2 post n (nI i) W L A B C D := by
  intro n
  induction n with
  | zero => intro i C h; omega
  | succ n ih =>
    intro i C hn hi hC
    refine pk_le 216 i (fun h => ⟨217, ?_⟩) fun h => ⟨lf_in h, nm_r (e' := upd C i (nI i)) (by rw [lf_c h]) (nm_r (nI_1 i) ?_)⟩
    · exact lf_yR26 hp 217 0 1 C (fun c => c) (by omega) (by omega) (fun c hc => hC c (by omega)) (lf_lb0 W) (Nat.zero_le _) fun z => absurd z lf_10
    · refine ih (i + 1) _ (by omega) h fun c hc => ?_
      by_cases e : c = i
      · rw [e, pk_us]
      · rw [pk_un e]
        exact hC c (by omega)
theorem lf_yRooms {post : Int32 → SY → Prop} {C : Nat → Int32} (hp : ∀ C', post (nI (lf_cn (lf_pRm W) 216)) (W, L, A, B, C', D)) : wpY_rooms post (W, L, A, B, C, D) := ⟨217, lf_yR2 hp 217 0 C (by omega) (by omega) fun c hc => absurd hc (Nat.not_lt_zero c)⟩
end
