section
variable {xr xb xm xf xj xk xv xp : Int32} {c sg : Nat → Int32}
theorem ra_saveGroup {post : SX → Prop} {B : Nat → Int32} {g : Nat} (hg : g < 6) (hI : ra_Inv (fun _ _ => True) B g xf c) (h : ∀ s, (∀ i, i < 4 → s i = B (4 * g + i)) → post (xr, xb, nI g, xf, 2, xk, xv, xp, c, s)) : wpX_saveGroup post (xr, xb, nI g, xf, xj, xk, xv, xp, c, sg) := by
  unfold wpX_saveGroup
  refine nm_r (pk_mul g 4) ?_
  refine loop_0 (fun n i (s : Nat → Int32) => wX_saveGroup_9 post (nI (g * 4)) xr xb (nI g) xf xj xk xv xp n (nI i) c s) (fun i s => ∀ j, j < i → s j = B (4 * g + j)) 4 sg (fun j z => by omega) ?_ ?_
  · intro n s hs
    exact pk_le 4 4 (fun _ => h s hs) (fun z => by omega)
  · intro n i s hi hs ih
    refine pk_le 4 i (fun z => by omega) (fun _ => ?_)
    rw [nI_add]
    have hb : g * 4 + i < ra_sz g := by
      unfold ra_sz
      rw [if_neg (by omega)]
      omega
    refine ra_recallBlock (by omega) hb ⟨pk_in i 4 hi, ?_⟩
    rw [pk_cl i, ra_recB (by omega) hb hI (fun _ => trivial)]
    refine nm_e (nm_r (nI_1 i) (ih _ ?_))
    intro j hj
    by_cases e : j = i
    · subst e
      rw [pk_us]
      exact congrArg B (by omega)
    · rw [pk_un e]
      exact hs j (by omega)
/-- the parity of the saved blocks from 'first' on -/
def ra_px (s : Nat → Int32) (first : Nat) : Nat → Int32
  | 0 => 0
  | n + 1 => ra_px s first n ^^^ s (first + n)
def ra_pi (w i : Nat) : Nat := if i < w - 1 then i else w - 1
theorem ra_layStripe {post : SX → Prop} (I : Nat → (Nat → Int32) → Prop) (w row first k : Nat) (hw : w = 5 ∨ w = 3) (hrow : row < 12) (hf : first + (w - 1) ≤ 4) (hk : k ≤ w) (h0 : I 0 c)
    (hs : ∀ i c, i < k → I i c → I (i + 1) (ra_put xf c ((row + i) % w) row (if i < w - 1 then sg (first + i) else ra_px sg first (w - 1))))
    (h : ∀ c', I k c' → post (xr, xb, xm, xf, xj, xk, xv, xp, c', sg)) : wpX_layStripe post (xr, xb, xm, xf, xj, xk, xv, xp, c, sg) (nI row) (nI w) (nI first) (nI k) := by
  unfold wpX_layStripe
  refine nm_r (pk_sub (a := w) (b := 1) (by omega)) ?_
  have hz : ra_px sg first (ra_pi w 0) = 0 := by
    unfold ra_pi
    rw [if_pos (by omega)]
    rfl
  have hm : ∀ i, (row + i) % w < 5 := fun i => by rcases hw with rfl | rfl <;> omega
  obtain ⟨n, hn⟩ := loop_0 (fun n i (s : Nat → Int32) => wX_layStripe_11 post (nI row) (nI w) (nI first) (nI k) (nI (w - 1)) n (ra_px sg first (ra_pi w i)) (nI i) xr xb xm xf xj xk xv xp s sg) I k c h0
    (by
      intro n s hI
      exact pk_le k k (fun _ => h s hI) (fun z => by omega))
    (by
      intro n i s hi hI ih
      refine pk_le k i (fun z => by omega) (fun _ => ?_)
      have hst := hs i s hi hI
      refine pk_le (w - 1) i (fun z => ?_) (fun z => ?_)
      · rw [if_neg (by omega)] at hst
        have e1 : ra_pi w i = w - 1 := if_neg (by omega)
        have e2 : ra_pi w (i + 1) = w - 1 := if_neg (by omega)
        have ih' := ih _ hst
        rw [e2] at ih'
        rw [e1]
        unfold wX_layStripe_47
        exact ra_memberAt hw (by omega) (by omega) (ra_putCell (hm i) hrow (nm_r (nI_1 i) ih'))
      · rw [if_pos z] at hst
        have e1 : ra_pi w i = i := if_pos z
        have e2 : ra_pi w (i + 1) = i + 1 := by
          unfold ra_pi
          split <;> omega
        have ih' := ih _ hst
        rw [e2] at ih'
        rw [e1, nI_add]
        refine ⟨pk_in (first + i) 4 (by omega), ?_⟩
        rw [pk_cl (first + i)]
        refine nm_e (nm_e ?_)
        unfold wX_layStripe_47
        exact ra_memberAt hw (by omega) (by omega) (ra_putCell (hm i) hrow (nm_r (nI_1 i) ih')))
  rw [hz] at hn
  exact ⟨n, hn⟩
theorem ra_px4 (s : Nat → Int32) (a : Nat) : ra_px s a 4 = s a ^^^ (s (a + 1) ^^^ (s (a + 2) ^^^ s (a + 3))) := by
  simp [ra_px, Int32.xor_assoc]
theorem ra_px2 (s : Nat → Int32) (a : Nat) : ra_px s a 2 = s a ^^^ s (a + 1) := by
  simp [ra_px]
/-- a five-wide stripe of the saved blocks -/
theorem ra_lay5 {post : SX → Prop} {R : Nat → Nat → Prop} {B : Nat → Int32} {G row : Nat} (hrow : row < 12) (hw : ra_w G row = 5) (hs : ∀ i, i < 4 → sg i = B (4 * row + i)) (hI : ra_Inv (fun r m => R r m ∧ r ≠ row) B G xf c) (h : ∀ c', ra_Inv R B G xf c' → post (xr, xb, xm, xf, xj, xk, xv, xp, c', sg)) : wpX_layStripe post (xr, xb, xm, xf, xj, xk, xv, xp, c, sg) (nI row) 5 0 5 := by
  refine ra_layStripe (fun i c' => ra_Inv (fun r m => R r m ∧ (r = row → (m + 4 * row) % 5 < i)) B G xf c') 5 row 0 5 (Or.inl rfl) hrow (by omega) (by omega) ?_ ?_ ?_
  · exact ra_IR hI (fun r m _ _ z => ⟨z.1, fun e => absurd (z.2 e) (by omega)⟩)
  · intro i c' hi hI'
    refine ra_putI hrow hI' (fun _ _ _ => ?_) (fun r m _ hm z n => ⟨z.1, fun e => ?_⟩)
    · rw [ra_D5 hw, show ((row + i) % 5 + 4 * row) % 5 = i by omega]
      unfold ra_5
      by_cases e : i = 4
      · rw [if_pos e, if_neg (by omega), ra_px4, hs 0 (by omega), hs (0 + 1) (by omega), hs (0 + 2) (by omega), hs (0 + 3) (by omega)]
        rfl
      · rw [if_neg e, if_pos (by omega), Nat.zero_add, hs i (by omega)]
    · have := z.2 e
      subst e
      have : m ≠ (r + i) % 5 := fun q => n ⟨rfl, q⟩
      omega
  · intro c' hI'
    exact h c' (ra_IR hI' (fun r m _ _ z => ⟨z, fun _ => by omega⟩))
/-- a three-wide stripe of the saved blocks from 'first' on -/
theorem ra_lay3 {post : SX → Prop} {R : Nat → Nat → Prop} {B : Nat → Int32} {G row : Nat} (first : Nat) (hf : first ≤ 2) (hrow : row < 12) (hw : ra_w G row = 3) (hs : ∀ i, i < 2 → sg (first + i) = B (2 * row + i)) (hI : ra_Inv (fun r m => R r m ∧ r ≠ row) B G xf c) (h : ∀ c', ra_Inv R B G xf c' → post (xr, xb, xm, xf, xj, xk, xv, xp, c', sg)) : wpX_layStripe post (xr, xb, xm, xf, xj, xk, xv, xp, c, sg) (nI row) 3 (nI first) 3 := by
  refine ra_layStripe (fun i c' => ra_Inv (fun r m => R r m ∧ (r = row → (m + 2 * row) % 3 < i)) B G xf c') 3 row first 3 (Or.inr rfl) hrow (by omega) (by omega) ?_ ?_ ?_
  · exact ra_IR hI (fun r m _ _ z => ⟨z.1, fun e => absurd (z.2 e) (by omega)⟩)
  · intro i c' hi hI'
    refine ra_putI hrow hI' (fun _ _ _ => ?_) (fun r m _ hm z n => ⟨z.1, fun e => ?_⟩)
    · rw [ra_D3 hw, show ((row + i) % 3 + 2 * row) % 3 = i by omega]
      unfold ra_3
      by_cases e : i = 2
      · rw [if_pos e, if_neg (by omega), ra_px2, hs 1 (by omega), show sg first = B (2 * row) from hs 0 (by omega)]
      · rw [if_neg e, if_pos (by omega), hs i (by omega)]
    · have := z.2 e
      subst e
      have : m ≠ (r + i) % 3 := fun q => n ⟨rfl, q⟩
      omega
  · intro c' hI'
    exact h c' (ra_IR hI' (fun r m _ _ z => ⟨z, fun _ => by omega⟩))
/-- cells written into a row that nothing is asked of -/
theorem ra_layF {post : SX → Prop} {R : Nat → Nat → Prop} {B : Nat → Int32} {G row : Nat} (k : Nat) (hk : k ≤ 5) (hrow : row < 12) (hw : ∀ m, m < ra_w G row → ¬ R row m) (hI : ra_Inv R B G xf c) (h : ∀ c', ra_Inv R B G xf c' → post (xr, xb, xm, xf, xj, xk, xv, xp, c', sg)) : wpX_layStripe post (xr, xb, xm, xf, xj, xk, xv, xp, c, sg) (nI row) 5 0 (nI k) :=
  ra_layStripe (fun i c' => ra_Inv R B G xf c') 5 row 0 k (Or.inl rfl) hrow (by omega) hk hI (fun i c' hi hI' => ra_putI hrow hI' (fun z y _ => absurd z (hw _ y)) (fun r m _ _ z _ => z)) h
theorem ra_clearRow {post : SX → Prop} {row : Nat} (hrow : row < 12) (h : ∀ c', (∀ r m, r < 12 → m < 5 → nI m ≠ xf → c' (m * 12 + r) = if r = row then 0 else c (m * 12 + r)) → post (xr, xb, xm, xf, xj, xk, xv, xp, c', sg)) : wpX_clearRow post (xr, xb, xm, xf, xj, xk, xv, xp, c, sg) (nI row) := by
  unfold wpX_clearRow
  refine loop_0 (fun n i (s : Nat → Int32) => wX_clearRow_2 post (nI row) n (nI i) xr xb xm xf xj xk xv xp s sg) (fun i s => ∀ r m, r < 12 → m < 5 → nI m ≠ xf → s (m * 12 + r) = if r = row ∧ m < i then 0 else c (m * 12 + r)) 5 c ?_ ?_ ?_
  · intro r m _ _ _
    rw [if_neg (by omega)]
  · intro n s hs
    refine pk_le 5 5 (fun _ => h s (fun r m h1 h2 h3 => ?_)) (fun z => by omega)
    rw [hs r m h1 h2 h3]
    by_cases e : r = row
    · rw [if_pos ⟨e, h2⟩, if_pos e]
    · rw [if_neg (fun z => e z.1), if_neg e]
  · intro n i s hi hs ih
    refine pk_le 5 i (fun z => by omega) (fun _ => ?_)
    refine ra_putCell hi hrow (nm_r (nI_1 i) (ih _ ?_))
    intro r m h1 h2 h3
    unfold ra_put
    split
    · rename_i e
      rw [hs r m h1 h2 h3]
      have : m ≠ i := fun z => h3 (z ▸ e)
      by_cases e' : r = row ∧ m < i
      · rw [if_pos e', if_pos (by omega)]
      · rw [if_neg e', if_neg (by omega)]
    · by_cases e : r = row ∧ m = i
      · obtain ⟨rfl, rfl⟩ := e
        rw [pk_us, if_pos (by omega)]
      · rw [pk_un (by omega), hs r m h1 h2 h3]
        by_cases e' : r = row ∧ m < i
        · rw [if_pos e', if_pos (by omega)]
        · rw [if_neg e', if_neg (by omega)]
theorem ra_finishMove {post : SX → Prop} {g : Nat} (hg : g ≤ 6) (h0 : g ≠ 6 → post (xr, xb, nI g, xf, 0, xk, xv, xp, c, sg)) (h1 : g = 6 → ∀ c', (∀ r m, r < 12 → m < 5 → nI m ≠ xf → c' (m * 12 + r) = if 6 ≤ r then 0 else c (m * 12 + r)) → post (xr, xb, nI g, xf, 0, xk, xv, xp, c', sg)) : wpX_finishMove post (xr, xb, nI g, xf, xj, xk, xv, xp, c, sg) := by
  unfold wpX_finishMove
  refine ra_isComplete hg (fun e => br_f (by decide) ?_) (fun e => br_t rfl (h0 e))
  refine pk_loop (fun n i (s : Nat → Int32) => wX_finishMove_10 post n (nI i) xr xb (nI g) xf xj xk xv xp s sg) (fun i s => 6 ≤ i ∧ ∀ r m, r < 12 → m < 5 → nI m ≠ xf → s (m * 12 + r) = if 6 ≤ r ∧ r < i then 0 else c (m * 12 + r)) 12 6 c (by omega) ?_ ?_ ?_
  · refine ⟨by omega, ?_⟩
    intro r m _ _ _
    rw [if_neg (by omega)]
  · rintro n s ⟨_, hs⟩
    refine pk_le 12 12 (fun _ => h1 e s (fun r m h1 h2 h3 => ?_)) (fun z => by omega)
    rw [hs r m h1 h2 h3]
    by_cases e : 6 ≤ r
    · rw [if_pos ⟨e, h1⟩, if_pos e]
    · rw [if_neg (fun z => e z.1), if_neg e]
  · rintro n i s hi ⟨h6, hs⟩ ih
    refine pk_le 12 i (fun z => by omega) (fun _ => ?_)
    refine ra_clearRow hi (fun c' hc => nm_r (nI_1 i) (ih c' ⟨by omega, ?_⟩))
    intro r m h1 h2 h3
    rw [hc r m h1 h2 h3, hs r m h1 h2 h3]
    by_cases e1 : r = i
    · rw [if_pos e1, if_pos (by omega)]
    · rw [if_neg e1]
      by_cases e2 : 6 ≤ r ∧ r < i
      · rw [if_pos e2, if_pos (by omega)]
      · rw [if_neg e2, if_neg (by omega)]
/-- rows that a finished move has still to clear, cleared -/
theorem ra_finish {post : SX → Prop} {B : Nat → Int32} {g : Nat} (hg : g ≤ 6) (hI : ra_Inv (fun r _ => g = 6 → r < 6) B g xf c) (hB : g = 6 → ∀ b, 24 ≤ b → b < 48 → B b = 0) (h : ∀ c', ra_Inv (fun _ _ => True) B g xf c' → post (xr, xb, nI g, xf, 0, xk, xv, xp, c', sg)) : wpX_finishMove post (xr, xb, nI g, xf, xj, xk, xv, xp, c, sg) := by
  refine ra_finishMove hg (fun e => h c (ra_IR hI (fun r m _ _ _ z => absurd z e))) (fun e c' hc => h c' ?_)
  intro row m h1 _ h3 h4
  have hw : ra_w g row = 5 := ra_w5 (Or.inl e)
  rw [hc row m h1 (by omega) h4]
  by_cases e6 : 6 ≤ row
  · rw [if_pos e6, ra_D5 hw]
    unfold ra_5
    split
    · rw [hB e _ (by omega) (by omega), hB e _ (by omega) (by omega), hB e _ (by omega) (by omega), hB e _ (by omega) (by omega)]
      decide
    · rw [hB e _ (by omega) (by omega)]
  · rw [if_neg e6]
    exact hI row m h1 (fun _ => by omega) h3 h4
/-- the blocks once group g has moved -/
def ra_mvB (g : Nat) (B : Nat → Int32) : Nat → Int32 := if g + 1 = 6 then (fun j => if 24 ≤ j ∧ j < 48 then 0 else B j) else B
theorem ra_mvBlo {g j : Nat} {B : Nat → Int32} (h : j < 24) : ra_mvB g B j = B j := by
  unfold ra_mvB
  split
  · exact if_neg (by omega)
  · rfl
theorem ra_mvBhi {g j : Nat} {B : Nat → Int32} (hg : g + 1 = 6) (h : 24 ≤ j) (h2 : j < 48) : ra_mvB g B j = 0 := by
  unfold ra_mvB
  rw [if_pos hg]
  exact if_pos ⟨h, h2⟩
theorem ra_mv1 {B : Nat → Int32} {g : Nat} (hg : g < 6) (hI : ra_Inv (fun _ _ => True) B g xf c) : ra_Inv (fun r _ => (g + 1 = 6 → r < 6) ∧ r ≠ g) (ra_mvB g B) (g + 1) xf c := by
  rintro row m h1 ⟨hA, hB⟩ h3 h4
  rcases ra_wc (g + 1) row with e | e | e
  · have := ra_w5i e
    have e' : ra_w g row = 5 := ra_w5 (by omega)
    rw [hI row m h1 trivial (by omega) h4, ra_D5 e, ra_D5 e']
    exact ra_5c (by omega) (fun j _ _ => (ra_mvBlo (by omega)).symm)
  · have := ra_w3i e
    have e' : ra_w g row = 3 := ra_w3 (by omega) (by omega)
    rw [hI row m h1 trivial (by omega) h4, ra_D3 e, ra_D3 e']
    exact ra_3c (by omega) (fun j _ _ => (ra_mvBlo (by omega)).symm)
  · omega
theorem ra_2g {B : Nat → Int32} {g : Nat} (hI : ra_Inv (fun _ _ => True) B g xf c) : ra_Inv (fun r _ => r ≠ 2 * g ∧ r ≠ 2 * g + 1) B g xf c := ra_IR hI (fun _ _ _ _ _ => trivial)
theorem ra_2gw {g : Nat} (hg : g < 6) : ∀ m, m < ra_w g g → ¬ (g ≠ 2 * g ∧ g ≠ 2 * g + 1) := by
  intro m hm
  rcases ra_wc g g with e | e | e
  · have := ra_w5i e
    omega
  · have := ra_w3i e
    omega
  · omega
/-- moveUntil, point by point -/
theorem ra_mu0 {post : SX → Prop} (h : post (xr, xb, xm, xf, xj, xk, xv, xp, c, sg)) : wpX_moveUntil post (xr, xb, xm, xf, xj, xk, xv, xp, c, sg) 0 := by
  unfold wpX_moveUntil
  refine br_t (by decide) ?_
  unfold wX_moveUntil_8
  refine br_t (by decide) ?_
  unfold wX_moveUntil_35
  refine br_t (by decide) ?_
  unfold wX_moveUntil_55
  exact br_t (by decide) h
theorem ra_mu1 {post : SX → Prop} {B : Nat → Int32} {g : Nat} (hg : g < 6) (hI : ra_Inv (fun _ _ => True) B g xf c) (h : ∀ s c', (∀ i, i < 4 → s i = B (4 * g + i)) → ra_Inv (fun r _ => r ≠ 2 * g ∧ r ≠ 2 * g + 1) B g xf c' → post (xr, xb, nI g, xf, 2, xk, xv, xp, c', s)) : wpX_moveUntil post (xr, xb, nI g, xf, xj, xk, xv, xp, c, sg) 1 := by
  unfold wpX_moveUntil
  refine br_f (by decide) (ra_saveGroup hg hI (fun s hs => ?_))
  unfold wX_moveUntil_8
  refine br_t (by decide) ?_
  unfold wX_moveUntil_35
  refine br_t (by decide) ?_
  unfold wX_moveUntil_55
  exact br_t (by decide) (h s c hs (ra_2g hI))
theorem ra_mu2 {post : SX → Prop} {B : Nat → Int32} {g : Nat} (hg : g < 6) (hI : ra_Inv (fun _ _ => True) B g xf c) (h : ∀ s c', (∀ i, i < 4 → s i = B (4 * g + i)) → ra_Inv (fun r _ => r ≠ 2 * g ∧ r ≠ 2 * g + 1) B g xf c' → post (xr, xb, nI g, xf, 2, xk, xv, xp, c', s)) : wpX_moveUntil post (xr, xb, nI g, xf, xj, xk, xv, xp, c, sg) 2 := by
  unfold wpX_moveUntil
  refine br_f (by decide) (ra_saveGroup hg hI (fun s hs => ?_))
  unfold wX_moveUntil_8
  refine br_f (by decide) (br_t rfl ?_)
  unfold wX_moveUntil_23
  refine ra_layF 3 (by omega) (by omega) (ra_2gw hg) (ra_2g hI) (fun c' hI' => ?_)
  unfold wX_moveUntil_35
  refine br_t (by decide) ?_
  unfold wX_moveUntil_55
  exact br_t (by decide) (h s c' hs hI')
theorem ra_mu3 {post : SX → Prop} {B : Nat → Int32} {g : Nat} (hg : g < 6) (hI : ra_Inv (fun _ _ => True) B g xf c) (h : ∀ s c', (∀ i, i < 4 → s i = B (4 * g + i)) → ra_Inv (fun r _ => r ≠ 2 * g ∧ r ≠ 2 * g + 1) B g xf c' → post (xr, xb, nI g, xf, 2, xk, xv, xp, c', s)) : wpX_moveUntil post (xr, xb, nI g, xf, xj, xk, xv, xp, c, sg) 3 := by
  unfold wpX_moveUntil
  refine br_f (by decide) (ra_saveGroup hg hI (fun s hs => ?_))
  unfold wX_moveUntil_8
  refine br_f (by decide) (br_f (by decide) ?_)
  unfold wX_moveUntil_23
  refine ra_layF 5 (by omega) (by omega) (ra_2gw hg) (ra_2g hI) (fun c' hI' => ?_)
  unfold wX_moveUntil_35
  refine br_t (by decide) ?_
  unfold wX_moveUntil_55
  exact br_t (by decide) (h s c' hs hI')
theorem ra_mu4 {post : SX → Prop} {B : Nat → Int32} {g : Nat} (hg : g < 6) (hI : ra_Inv (fun _ _ => True) B g xf c) (h : ∀ s c', ra_Inv (fun r _ => g + 1 = 6 → r < 6) (ra_mvB g B) (g + 1) xf c' → post (xr, xb, nI (g + 1), xf, 3, xk, xv, xp, c', s)) : wpX_moveUntil post (xr, xb, nI g, xf, xj, xk, xv, xp, c, sg) 4 := by
  unfold wpX_moveUntil
  refine br_f (by decide) (ra_saveGroup hg hI (fun s hs => ?_))
  unfold wX_moveUntil_8
  refine br_f (by decide) (br_f (by decide) ?_)
  unfold wX_moveUntil_23
  refine ra_lay5 (R := fun r _ => g + 1 = 6 → r < 6) (B := ra_mvB g B) (G := g + 1) (by omega) (ra_w5 (by omega)) (fun i hi => (hs i hi).trans (ra_mvBlo (by omega)).symm) (ra_mv1 hg hI) (fun c' hI' => ?_)
  unfold wX_moveUntil_35
  refine br_f (by decide) (nm_r (nI_1 g) ?_)
  unfold wX_moveUntil_55
  exact br_t (by decide) (h s c' hI')
theorem ra_mu5 {post : SX → Prop} {B : Nat → Int32} {g : Nat} (hg : g < 6) (hI : ra_Inv (fun _ _ => True) B g xf c) (h : ∀ s c', ra_Inv (fun _ _ => True) (ra_mvB g B) (g + 1) xf c' → post (xr, xb, nI (g + 1), xf, 0, xk, xv, xp, c', s)) : wpX_moveUntil post (xr, xb, nI g, xf, xj, xk, xv, xp, c, sg) 5 := by
  unfold wpX_moveUntil
  refine br_f (by decide) (ra_saveGroup hg hI (fun s hs => ?_))
  unfold wX_moveUntil_8
  refine br_f (by decide) (br_f (by decide) ?_)
  unfold wX_moveUntil_23
  refine ra_lay5 (R := fun r _ => g + 1 = 6 → r < 6) (B := ra_mvB g B) (G := g + 1) (by omega) (ra_w5 (by omega)) (fun i hi => (hs i hi).trans (ra_mvBlo (by omega)).symm) (ra_mv1 hg hI) (fun c' hI' => ?_)
  unfold wX_moveUntil_35
  refine br_f (by decide) (nm_r (nI_1 g) ?_)
  unfold wX_moveUntil_55
  exact br_f (by decide) (ra_finish (by omega) hI' (fun e b h1 h2 => ra_mvBhi e h1 h2) (fun c'' hI'' => h s c'' hI''))
theorem ra_undoMove {post : SX → Prop} {B : Nat → Int32} {g : Nat} (hg : g < 6) (hs : ∀ i, i < 4 → sg i = B (4 * g + i)) (hI : ra_Inv (fun r _ => r ≠ 2 * g ∧ r ≠ 2 * g + 1) B g xf c) (h : ∀ c', ra_Inv (fun _ _ => True) B g xf c' → post (xr, xb, nI g, xf, xj, xk, xv, xp, c', sg)) : wpX_undoMove post (xr, xb, nI g, xf, xj, xk, xv, xp, c, sg) := by
  unfold wpX_undoMove
  refine nm_r (pk_mul g 2) ?_
  refine ra_lay3 (R := fun r _ => r ≠ 2 * g + 1) (B := B) (G := g) 0 (by omega) (by omega) (ra_w3 (by omega) (by omega)) (fun i hi => ?_) (ra_IR hI (fun r m _ _ z => ⟨by omega, z.1⟩)) (fun c' hI' => ?_)
  · rw [hs (0 + i) (by omega)]
    exact congrArg B (by omega)
  · rw [nI_1]
    refine ra_lay3 (R := fun _ _ => True) (B := B) (G := g) 2 (by omega) (by omega) (ra_w3 (by omega) (by omega)) (fun i hi => ?_) (ra_IR hI' (fun r m _ _ z => by omega)) (fun c'' hI'' => h c'' hI'')
    rw [hs (2 + i) (by omega)]
    exact congrArg B (by omega)
/-- what holds while the power is off -/
def ra_dn (g : Nat) (xf xj xk xv xp : Int32) (c sg B : Nat → Int32) : Prop :=
  (xj = 0 ∧ ra_Inv (fun _ _ => True) B g xf c) ∨
  (xj = 1 ∧ ∃ b, xk = nI b ∧ b < ra_sz g ∧ xv = B b ∧ xp = ra_D B g (ra_par g b) (ra_row g b) ∧ ra_Inv (fun row m => row = ra_row g b → m ≠ ra_mem g b ∧ m ≠ ra_par g b) B g xf c) ∨
  (xj = 2 ∧ g < 6 ∧ (∀ i, i < 4 → sg i = B (4 * g + i)) ∧ ra_Inv (fun r _ => r ≠ 2 * g ∧ r ≠ 2 * g + 1) B g xf c) ∨
  (xj = 3 ∧ (g = 6 → ∀ b, 24 ≤ b → b < 48 → B b = 0) ∧ ra_Inv (fun r _ => g = 6 → r < 6) B g xf c)
theorem ra_recover {post : SX → Prop} {B : Nat → Int32} {g : Nat} (hg : g ≤ 6) (hd : ra_dn g xf xj xk xv xp c sg B) (h : ∀ k v p c', ra_Inv (fun _ _ => True) B g xf c' → post (xr, xb, nI g, xf, 0, k, v, p, c', sg)) : wpX_recover post (xr, xb, nI g, xf, xj, xk, xv, xp, c, sg) := by
  unfold wpX_recover
  rcases hd with ⟨rfl, hI⟩ | ⟨rfl, b, rfl, hb, rfl, rfl, hI⟩ | ⟨rfl, h6, hs, hI⟩ | ⟨rfl, hB, hI⟩
  · exact br_f (by decide) (br_f (by decide) (br_f (by decide) (h _ _ _ _ hI)))
  · exact br_t rfl (ra_putLoggedData hg hb (ra_putLoggedParity hg hb (h _ _ _ _ (ra_wr3 hg hb (fun _ => rfl) (ra_wr2 hg hb rfl hI)))))
  · exact br_f (by decide) (br_t rfl (ra_undoMove h6 hs hI (fun c' hI' => h _ _ _ _ hI')))
  · exact br_f (by decide) (br_f (by decide) (br_t rfl (ra_finish hg hI hB (fun c' hI' => h _ _ _ _ hI'))))
end
