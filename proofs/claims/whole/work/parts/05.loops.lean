section
variable {xr xb xm xf xj xk xv xp yd yb yl : Int32} {c sg : Nat → Int32}
theorem ra_widthOfRow {post : Int32 → Prop} {g row : Nat} (hg : g ≤ 6) (hr : row < 12) (h : post (nI (ra_w g row))) : wpX_widthOfRow post (xr, xb, nI g, xf, xj, xk, xv, xp, c, sg) (nI row) := by
  unfold wpX_widthOfRow
  refine ra_isComplete hg (fun e => br_f (by decide) ?_) (fun e => br_t rfl (pk_le g row (fun z => pk_lt row (g * 2) (fun y => ?_) (fun y => ?_) (hy := pk_mul g 2)) (fun z => ?_)))
  · rw [ra_w5 (Or.inl e)] at h
    exact h
  · rw [ra_w0 (by omega) (by omega)] at h
    exact h
  · rw [ra_w3 (by omega) (by omega)] at h
    exact h
  · rw [ra_w5 (by omega)] at h
    exact h
theorem ra_rebuildCell {post : SX → Prop} {g m row : Nat} (hg : g ≤ 6) (hm : m < 5) (hr : row < 12) (h : ∀ v, (m < ra_w g row → v = ra_xo (fun m => c (m * 12 + row)) (nI m) (ra_w g row)) → post (xr, xb, nI g, xf, xj, xk, xv, xp, ra_put xf c m row v, sg)) : wpX_rebuildCell post (xr, xb, nI g, xf, xj, xk, xv, xp, c, sg) (nI m) (nI row) := by
  have hw := ra_wle g row
  unfold wpX_rebuildCell
  refine ra_widthOfRow hg hr (pk_le (ra_w g row) m (fun z => ?_) (fun z => ?_))
  · unfold wX_rebuildCell_22
    exact ra_putCell hm hr (h 0 (fun y => by omega))
  · refine ra_combineOthers hr hw ?_
    unfold wX_rebuildCell_22
    exact ra_putCell hm hr (h _ (fun _ => rfl))
theorem ra_failL {post : Int32 → SX → Prop} {B : Nat → Int32} {g m0 : Nat} (hm : m0 < 5) (hI : ra_Inv (fun _ _ => True) B g (-1) c) (h : ∀ c', ra_Inv (fun _ _ => True) B g (nI m0) c' → post 0 (xr, xb, xm, nI m0, xj, xk, xv, xp, c', sg)) : ∃ n, wX_fail_37 post (nI m0) n 0 xr xb xm (-1) xj xk xv xp c sg := by
  refine loop_0 (fun n i (s : Nat → Int32) => wX_fail_37 post (nI m0) n (nI i) xr xb xm (-1) xj xk xv xp s sg) (fun i s => ra_Inv (fun _ _ => True) B g (nI m0) s) 12 c ?_ ?_ ?_
  · intro row m h1 h2 h3 _
    have := ra_wle g row
    exact hI row m h1 h2 h3 (ra_m1 (by omega))
  · intro n s hs
    exact pk_le 12 12 (fun _ => h s hs) (fun z => by omega)
  · intro n i s hi hs ih
    refine pk_le 12 i (fun z => by omega) (fun _ => ?_)
    refine ra_putCell hm hi (nm_r (nI_1 i) (ih _ ?_))
    unfold ra_put
    rw [if_neg (ra_m1 (by omega))]
    exact ra_updI hi hs (fun _ _ z => absurd rfl z) (fun _ _ _ _ _ _ => trivial)
theorem ra_replaceL {post : Int32 → SX → Prop} {B : Nat → Int32} {g m0 : Nat} (hg : g ≤ 6) (hm : m0 < 5) (hI : ra_Inv (fun _ _ => True) B g (nI m0) c) (h : ∀ c', ra_Inv (fun _ _ => True) B g (-1) c' → post (nI m0) (xr, xb, nI g, -1, xj, xk, xv, xp, c', sg)) : ∃ n, wX_replace_32 post (nI m0) n 0 xr xb (nI g) (-1) xj xk xv xp c sg := by
  refine loop_0 (fun n i (s : Nat → Int32) => wX_replace_32 post (nI m0) n (nI i) xr xb (nI g) (-1) xj xk xv xp s sg) (fun i s => ra_Inv (fun row m => m ≠ m0 ∨ row < i) B g (-1) s) 12 c ?_ ?_ ?_
  · intro row m h1 h2 h3 _
    have := ra_wle g row
    refine hI row m h1 trivial h3 (fun z => ?_)
    rw [ra_ne (by omega) (by omega)] at z
    omega
  · intro n s hs
    exact pk_le 12 12 (fun _ => h s (ra_IR hs (fun row m a _ _ => Or.inr a))) (fun z => by omega)
  · intro n i s hi hs ih
    refine pk_le 12 i (fun z => by omega) (fun _ => ?_)
    refine ra_rebuildCell hg hm hi (fun v hv => nm_r (nI_1 i) (ih _ ?_))
    refine ra_putI hi hs (fun _ a _ => ?_) (fun row m _ _ z y => by omega)
    rw [hv a]
    exact ra_xD a (fun m b d => hs i m hi (Or.inl d) b (ra_m1 (by have := ra_wle g i; omega)))
theorem ra_scrubL {post : Int32 → Prop} {B : Nat → Int32} {g : Nat} (hg : g ≤ 6) (hI : ra_Inv (fun _ _ => True) B g (-1) c) (h : post 0) : ∃ n, wX_scrub_24 post xr xb (nI g) xf xj xk xv xp c sg n 0 0 := by
  refine loop_0 (fun n i (s : Int32) => wX_scrub_24 post xr xb (nI g) xf xj xk xv xp c sg n s (nI i)) (fun i s => s = 0) 12 0 rfl ?_ ?_
  · rintro n s rfl
    exact pk_le 12 12 (fun _ => h) (fun z => by omega)
  · rintro n i s hi rfl ih
    refine pk_le 12 i (fun z => by omega) (fun _ => ?_)
    have hw := ra_wle g i
    refine ra_widthOfRow hg hi (ra_combineOthers hi hw (br_t ?_ (nm_r (nI_1 i) (ih _ rfl))))
    exact ra_xDz (fun m hm => ra_m1 (by omega)) (fun m hm => hI i m hi trivial hm (ra_m1 (by omega)))
def ra_sum (B : Nat → Int32) : Nat → Int32
  | 0 => 0
  | n + 1 => ra_sum B n + B n
theorem ra_sumX {post : Int32 → Prop} {B : Nat → Int32} {g : Nat} (hg : g ≤ 6) (hI : ra_Inv (fun _ _ => True) B g xf c) (h : post (ra_sum B (ra_sz g))) : ∃ n, wX_sum_18 post (nI (ra_sz g)) xr xb (nI g) xf xj xk xv xp c sg n 0 0 := by
  have h48 := ra_szl g
  refine loop_0 (fun n i (s : Int32) => wX_sum_18 post (nI (ra_sz g)) xr xb (nI g) xf xj xk xv xp c sg n s (nI i)) (fun i s => s = ra_sum B i) (ra_sz g) 0 rfl ?_ ?_
  · rintro n s rfl
    exact pk_le (ra_sz g) (ra_sz g) (fun _ => h) (fun z => by omega)
  · rintro n i s hi rfl ih
    refine pk_le (ra_sz g) i (fun z => by omega) (fun _ => ?_)
    refine ra_recallBlock hg hi ?_
    rw [ra_recB hg hi hI (fun _ => trivial)]
    exact nm_e (nm_r (nI_1 i) (ih _ rfl))
theorem ra_sizeY {post : Int32 → Prop} {B : Nat → Int32} {g : Nat} (hg : g ≤ 6) (h : post (nI (ra_sz g))) : wpY_size post (yd, yb, nI g, yl, B) := by
  unfold wpY_size
  unfold ra_sz at h
  refine pk_eq g 6 (fun e => ?_) (fun e => ?_)
  · rw [if_pos e] at h
    exact h
  · rw [if_neg e] at h
    exact h
theorem ra_sumY {post : Int32 → Prop} {B : Nat → Int32} {g : Nat} (hg : g ≤ 6) (h : post (ra_sum B (ra_sz g))) : ∃ n, wY_sum_13 post yd yb (nI g) yl B n 0 0 := by
  have h48 := ra_szl g
  refine loop_0 (fun n i (s : Int32) => wY_sum_13 post yd yb (nI g) yl B n s (nI i)) (fun i s => s = ra_sum B i) (ra_sz g) 0 rfl ?_ ?_
  · rintro n s rfl
    rw [wY_sum_13]
    exact ra_sizeY hg (pk_le (ra_sz g) (ra_sz g) (fun _ => h) (fun z => by omega))
  · rintro n i s hi rfl ih
    rw [wY_sum_13]
    refine ra_sizeY hg (pk_le (ra_sz g) i (fun z => by omega) (fun _ => pk_le 48 i (fun z => by omega) (fun _ => ⟨pk_in i 48 (by omega), ?_⟩)))
    rw [pk_cl i]
    exact nm_e (nm_r (nI_1 i) (ih _ rfl))
/-- the blocks after i blocks of a fill -/
def ra_fB (B : Nat → Int32) (b : Nat) (v st : Int32) (i : Nat) : Nat → Int32 := fun j => if b ≤ j ∧ j < b + i then v + st * nI (j - b) else B j
theorem ra_fB0 (B : Nat → Int32) (b : Nat) (v st : Int32) : ra_fB B b v st 0 = B := by
  funext j
  exact if_neg (by omega)
theorem ra_fBs (B : Nat → Int32) (b : Nat) (v st : Int32) (i : Nat) : upd (ra_fB B b v st i) (b + i) (v + st * nI i) = ra_fB B b v st (i + 1) := by
  funext j
  unfold ra_fB upd
  dsimp only
  by_cases e : j = b + i
  · subst e
    rw [if_pos rfl, if_pos (by omega), show b + i - b = i by omega]
  · rw [if_neg e]
    by_cases e2 : b ≤ j ∧ j < b + i
    · rw [if_pos e2, if_pos (by omega)]
    · rw [if_neg e2, if_neg (by omega)]
theorem ra_ms (v st : Int32) (i : Nat) : v + st * nI i + st = v + st * nI (i + 1) := by
  rw [← nI_1, Int32.mul_add, Int32.mul_one, Int32.add_assoc]
theorem ra_fillX {post : Int32 → SX → Prop} {B : Nat → Int32} {g b cnt : Nat} {v st : Int32} (hg : g ≤ 6) (hb : b + cnt ≤ ra_sz g) (h : ∀ k w p c', ra_Inv (fun _ _ => True) (ra_fB B b v st cnt) g xf c' → post 0 (xr, xb, nI g, xf, 0, k, w, p, c', sg)) : ∀ (d i : Nat), i + d = cnt → ∀ (xk xv xp : Int32) (c : Nat → Int32), ra_Inv (fun _ _ => True) (ra_fB B b v st i) g xf c → wX_fill_46 post (nI b) (nI cnt) st (d + 1) (v + st * nI i) (nI i) xr xb (nI g) xf 0 xk xv xp c sg := by
  have h48 := ra_szl g
  intro d
  induction d with
  | zero =>
    intro i hi xk xv xp c hI
    have e : i = cnt := by omega
    subst e
    exact pk_le i i (fun _ => h _ _ _ _ hI) (fun z => by omega)
  | succ d ih =>
    intro i hi xk xv xp c hI
    refine pk_le cnt i (fun z => by omega) (fun _ => ?_)
    rw [nI_add]
    refine ra_write hg (by omega) hI (fun p c' hI' => ?_)
    rw [ra_fBs] at hI'
    exact nm_r (ra_ms v st i) (nm_r (nI_1 i) (ih (i + 1) (by omega) _ _ _ _ hI'))
def ra_fi (b cnt k : Nat) : Nat := if k ≤ b then 0 else if k - b ≤ cnt then k - b else cnt
theorem ra_fillY {post : Int32 → SY → Prop} {B : Nat → Int32} {b cnt : Nat} {v st : Int32} (hb : b + cnt ≤ 48) (h : post 0 (yd, yb, xm, yl, ra_fB B b v st cnt)) : ∃ n, wY_fill_43 post (nI b) (nI cnt) v st yd yb xm yl n 0 B := by
  refine loop_0 (fun n i (s : Nat → Int32) => wY_fill_43 post (nI b) (nI cnt) v st yd yb xm yl n (nI i) s) (fun i s => s = ra_fB B b v st (ra_fi b cnt i)) 48 B ?_ ?_ ?_
  · unfold ra_fi
    rw [if_pos (by omega)]
    exact (ra_fB0 B b v st).symm
  · rintro n s rfl
    refine pk_le 48 48 (fun _ => ?_) (fun z => by omega)
    have e : ra_fi b cnt 48 = cnt := by
      unfold ra_fi
      split
      · omega
      · split <;> omega
    rw [e]
    exact h
  · rintro n i s hi rfl ih
    refine pk_le 48 i (fun z => by omega) (fun _ => ?_)
    refine pk_lt i b (fun z => nm_r (nI_1 i) (ih _ ?_)) (fun z => ?_)
    · unfold ra_fi
      rw [if_pos (by omega), if_pos (by omega)]
    · refine pk_le (b + cnt) i (fun y => nm_r (nI_1 i) (ih _ ?_)) (fun y => ⟨pk_in i 48 hi, ?_⟩) (hx := nI_add b cnt)
      · have e1 : ra_fi b cnt i = cnt := by
          unfold ra_fi
          split
          · omega
          · split <;> omega
        have e2 : ra_fi b cnt (i + 1) = cnt := by
          unfold ra_fi
          split
          · omega
          · split <;> omega
        rw [e1, e2]
      · rw [pk_cl i, pk_sub z]
        refine nm_e (nm_r (nI_1 i) (ih _ ?_))
        have e1 : ra_fi b cnt i = i - b := by
          unfold ra_fi
          split
          · omega
          · split <;> omega
        have e2 : ra_fi b cnt (i + 1) = i - b + 1 := by
          unfold ra_fi
          split
          · omega
          · split <;> omega
        rw [e1, e2]
        have := ra_fBs B b v st (i - b)
        rw [show b + (i - b) = i by omega] at this
        exact this
theorem ra_moveY {post : SY → Prop} {B : Nat → Int32} {g : Nat} (hg : g < 6) (h : post (yd, yb, nI (g + 1), yl, ra_mvB g B)) : wpY_move post (yd, yb, nI g, yl, B) := by
  unfold wpY_move
  refine nm_r (nI_1 g) (pk_eq (g + 1) 6 (fun e => ?_) (fun e => ?_))
  · refine pk_loop (fun n i (s : Nat → Int32) => wY_move_22 post yd yb (nI (g + 1)) yl n (nI i) s) (fun i s => 24 ≤ i ∧ s = fun j => if 24 ≤ j ∧ j < i then 0 else B j) 48 24 B (by omega) ⟨by omega, ?_⟩ ?_ ?_
    · funext j
      exact (if_neg (by omega)).symm
    · rintro n s ⟨_, rfl⟩
      refine pk_le 48 48 (fun _ => ?_) (fun z => by omega)
      unfold ra_mvB at h
      rw [if_pos e] at h
      exact h
    · rintro n i s hi ⟨h24, rfl⟩ ih
      refine pk_le 48 i (fun z => by omega) (fun _ => ⟨pk_in i 48 hi, ?_⟩)
      rw [pk_cl i]
      refine nm_e (nm_r (nI_1 i) (ih _ ⟨by omega, ?_⟩))
      funext j
      unfold upd
      dsimp only
      by_cases e1 : j = i
      · rw [if_pos e1, if_pos (by omega)]
      · rw [if_neg e1]
        by_cases e2 : 24 ≤ j ∧ j < i
        · rw [if_pos e2, if_pos (by omega)]
        · rw [if_neg e2, if_neg (by omega)]
  · unfold ra_mvB at h
    rw [if_neg e] at h
    exact h
theorem ra_isBlockN {post : Int32 → Prop} {g : Nat} {x : Int32} (hg : g ≤ 6) (hx : x < 0 ∨ nI (ra_sz g) ≤ x) (h : post 0) : wpX_isBlock post (xr, xb, nI g, xf, xj, xk, xv, xp, c, sg) x := by
  unfold wpX_isBlock
  refine br_c (fun _ => h) (fun e => ra_size hg (br_t (hx.resolve_left e) h))
theorem ra_isBlockY {post : Int32 → Prop} {g b : Nat} (hg : g ≤ 6) (hb : b < ra_sz g) (h : post 1) : wpX_isBlock post (xr, xb, nI g, xf, xj, xk, xv, xp, c, sg) (nI b) := by
  have h48 := ra_szl g
  unfold wpX_isBlock
  exact br_f (nI_pos (by omega)) (ra_size hg (pk_le (ra_sz g) b (fun z => by omega) (fun _ => h)))
theorem ra_noBlockN {post : Int32 → Prop} {B : Nat → Int32} {g : Nat} {x : Int32} (hg : g ≤ 6) (hx : x < 0 ∨ nI (ra_sz g) ≤ x) (h : post 1) : wpY_noBlock post (yd, yb, nI g, yl, B) x := by
  unfold wpY_noBlock
  refine br_c (fun _ => h) (fun e => ra_sizeY hg (br_t (hx.resolve_left e) h))
theorem ra_noBlockY {post : Int32 → Prop} {B : Nat → Int32} {g b : Nat} (hg : g ≤ 6) (hb : b < ra_sz g) (h : post 0) : wpY_noBlock post (yd, yb, nI g, yl, B) (nI b) := by
  have h48 := ra_szl g
  unfold wpY_noBlock
  exact br_f (nI_pos (by omega)) (ra_sizeY hg (pk_le (ra_sz g) b (fun z => by omega) (fun _ => pk_lt b 48 (fun _ => h) (fun z => by omega))))
end
