section
variable {xr xb xm xf xj xk xv xp : Int32} {c sg : Nat → Int32}
theorem ra_isComplete {post : Int32 → Prop} {g : Nat} (hg : g ≤ 6) (h1 : g = 6 → post 1) (h0 : g ≠ 6 → post 0) : wpX_isComplete post (xr, xb, nI g, xf, xj, xk, xv, xp, c, sg) := by
  unfold wpX_isComplete
  exact pk_eq g 6 h1 h0
theorem ra_size {post : Int32 → Prop} {g : Nat} (hg : g ≤ 6) (h : post (nI (ra_sz g))) : wpX_size post (xr, xb, nI g, xf, xj, xk, xv, xp, c, sg) := by
  unfold wpX_size
  refine ra_isComplete hg (fun e => br_f (by decide) ?_) (fun e => br_t rfl ?_)
  · unfold ra_sz at h
    rw [if_pos e] at h
    exact h
  · unfold ra_sz at h
    rw [if_neg e] at h
    exact h
theorem ra_isMoved {post : Int32 → Prop} {g b : Nat} (hg : g ≤ 6) (hb : b < 48) (h1 : (g = 6 ∨ b < 4 * g) → post 1) (h0 : ¬ (g = 6 ∨ b < 4 * g) → post 0) : wpX_isMoved post (xr, xb, nI g, xf, xj, xk, xv, xp, c, sg) (nI b) := by
  unfold wpX_isMoved
  exact pk_eq g 6 (fun e => h1 (Or.inl e)) (fun e => pk_le (g * 4) b (fun z => h0 (by omega)) (fun z => h1 (by omega)) (hx := pk_mul g 4))
theorem ra_rowOfBlock {post : Int32 → Prop} {g b : Nat} (hg : g ≤ 6) (hb : b < 48) (h : post (nI (ra_row g b))) : wpX_rowOfBlock post (xr, xb, nI g, xf, xj, xk, xv, xp, c, sg) (nI b) := by
  unfold wpX_rowOfBlock
  unfold ra_row at h
  refine ra_isMoved hg hb (fun e => br_f (by decide) ⟨by decide, ?_⟩) (fun e => br_t rfl ⟨by decide, ?_⟩)
  · rw [if_pos e] at h
    exact ek_v (pk_div (a := b) (d := 4) (by omega) (by omega) (by omega)) h
  · rw [if_neg e] at h
    exact ek_v (pk_div (a := b) (d := 2) (by omega) (by omega) (by omega)) h
theorem ra_memberAt {post : Int32 → Prop} {w row p : Nat} (hw : w = 5 ∨ w = 3) (hr : row < 100) (hp : p < 100) (h : post (nI ((row + p) % w))) : wpX_memberAt post (xr, xb, xm, xf, xj, xk, xv, xp, c, sg) (nI row) (nI w) (nI p) := by
  unfold wpX_memberAt
  refine nm_r (nI_add row p) ?_
  rcases hw with rfl | rfl
  · exact br_t rfl ⟨by decide, ek_v (pk_rem (a := row + p) (d := 5) (by omega) (by omega) (by omega)) h⟩
  · exact br_f (by decide) ⟨by decide, ek_v (pk_rem (a := row + p) (d := 3) (by omega) (by omega) (by omega)) h⟩
theorem ra_memberOfBlock {post : Int32 → Prop} {g b : Nat} (hg : g ≤ 6) (hb : b < 48) (h : post (nI (ra_mem g b))) : wpX_memberOfBlock post (xr, xb, nI g, xf, xj, xk, xv, xp, c, sg) (nI b) := by
  unfold wpX_memberOfBlock
  unfold ra_mem at h
  refine ra_isMoved hg hb (fun e => br_f (by decide) ⟨by decide, by decide, ?_⟩) (fun e => br_t rfl ⟨by decide, by decide, ?_⟩)
  · rw [if_pos e] at h
    have e1 : nI b / 4 = nI (b / 4) := pk_div (a := b) (d := 4) (by omega) (by omega) (by omega)
    have e2 : nI b - nI b / 4 * 4 = nI (b % 4) := pk_rem (a := b) (d := 4) (by omega) (by omega) (by omega)
    rw [e2, e1]
    exact ra_memberAt (w := 5) (Or.inl rfl) (by omega) (by omega) h
  · rw [if_neg e] at h
    have e1 : nI b / 2 = nI (b / 2) := pk_div (a := b) (d := 2) (by omega) (by omega) (by omega)
    have e2 : nI b - nI b / 2 * 2 = nI (b % 2) := pk_rem (a := b) (d := 2) (by omega) (by omega) (by omega)
    rw [e2, e1]
    exact ra_memberAt (w := 3) (Or.inr rfl) (by omega) (by omega) h
theorem ra_parityMemberOfBlock {post : Int32 → Prop} {g b : Nat} (hg : g ≤ 6) (hb : b < 48) (h : post (nI (ra_par g b))) : wpX_parityMemberOfBlock post (xr, xb, nI g, xf, xj, xk, xv, xp, c, sg) (nI b) := by
  unfold wpX_parityMemberOfBlock
  unfold ra_par at h
  refine ra_isMoved hg hb (fun e => br_f (by decide) ⟨by decide, ?_⟩) (fun e => br_t rfl ⟨by decide, ?_⟩)
  · rw [if_pos e] at h
    have e1 : nI b / 4 = nI (b / 4) := pk_div (a := b) (d := 4) (by omega) (by omega) (by omega)
    rw [e1]
    exact ra_memberAt (w := 5) (p := 4) (Or.inl rfl) (by omega) (by omega) h
  · rw [if_neg e] at h
    have e1 : nI b / 2 = nI (b / 2) := pk_div (a := b) (d := 2) (by omega) (by omega) (by omega)
    rw [e1]
    exact ra_memberAt (w := 3) (p := 2) (Or.inr rfl) (by omega) (by omega) h
theorem ra_widthOfBlock {post : Int32 → Prop} {g b : Nat} (hg : g ≤ 6) (hb : b < 48) (h : post (nI (ra_wb g b))) : wpX_widthOfBlock post (xr, xb, nI g, xf, xj, xk, xv, xp, c, sg) (nI b) := by
  unfold wpX_widthOfBlock
  unfold ra_wb at h
  refine ra_isMoved hg hb (fun e => br_f (by decide) ?_) (fun e => br_t rfl ?_)
  · rw [if_pos e] at h
    exact h
  · rw [if_neg e] at h
    exact h
theorem ra_ix (m row : Nat) : nI m * 12 + nI row = nI (m * 12 + row) := by
  rw [show (12 : Int32) = nI 12 from rfl, pk_mul, nI_add]
theorem ra_cellAt {post : Int32 → Prop} {m row : Nat} (hm : m < 5) (hr : row < 12) (h : post (c (m * 12 + row))) : wpX_cellAt post (xr, xb, xm, xf, xj, xk, xv, xp, c, sg) (nI m) (nI row) := by
  unfold wpX_cellAt
  refine ⟨pk_in (m * 12 + row) 60 (by omega) (ra_ix m row), ?_⟩
  rw [pk_cl (m * 12 + row) (ra_ix m row)]
  exact h
theorem ra_combineOthers {post : Int32 → Prop} {f : Int32} {row w : Nat} (hr : row < 12) (hw : w ≤ 5) (h : post (ra_xo (fun m => c (m * 12 + row)) f w)) : wpX_combineOthers post (xr, xb, xm, xf, xj, xk, xv, xp, c, sg) f (nI row) (nI w) := by
  unfold wpX_combineOthers
  refine loop_0 (fun n i (s : Int32) => wX_combineOthers_6 post f (nI row) (nI w) xr xb xm xf xj xk xv xp c sg n s (nI i)) (fun i s => s = ra_xo (fun m => c (m * 12 + row)) f i) w 0 rfl ?_ ?_
  · rintro n s rfl
    exact pk_le w w (fun _ => h) (fun z => by omega)
  · rintro n i s hi rfl ih
    refine pk_le w i (fun z => by omega) (fun _ => ?_)
    refine br_c (fun e => ?_) (fun e => ?_)
    · refine nm_r (nI_1 i) (ih _ ?_)
      show _ = ite _ _ _
      rw [if_pos e]
    · refine ra_cellAt (by omega) hr ?_
      refine nm_e (nm_r (nI_1 i) (ih _ ?_))
      show _ = ite _ _ _
      rw [if_neg e]
theorem ra_recallBlock {post : Int32 → Prop} {g b : Nat} (hg : g ≤ 6) (hb : b < ra_sz g) (h : post (ra_rec xf c g b)) : wpX_recallBlock post (xr, xb, nI g, xf, xj, xk, xv, xp, c, sg) (nI b) := by
  have h48 := ra_szl g
  obtain ⟨h1, h2, h3, h4, h5, h6⟩ := ra_bf hg hb
  unfold wpX_recallBlock
  refine ra_rowOfBlock hg (by omega) (ra_memberOfBlock hg (by omega) ?_)
  unfold ra_rec at h
  refine br_c (fun e => ?_) (fun e => ?_)
  · rw [if_pos e] at h
    exact ra_widthOfBlock hg (by omega) (ra_combineOthers h1 h6 h)
  · rw [if_neg e] at h
    exact ra_cellAt (by omega) h1 h
theorem ra_putCell {post : SX → Prop} {m row : Nat} {v : Int32} (hm : m < 5) (hr : row < 12) (h : post (xr, xb, xm, xf, xj, xk, xv, xp, ra_put xf c m row v, sg)) : wpX_putCell post (xr, xb, xm, xf, xj, xk, xv, xp, c, sg) (nI m) (nI row) v := by
  unfold wpX_putCell
  unfold ra_put at h
  refine br_c (fun e => ?_) (fun e => ⟨pk_in (m * 12 + row) 60 (by omega) (ra_ix m row), ?_⟩)
  · rw [if_pos e] at h
    exact h
  · rw [if_neg e] at h
    rw [pk_cl (m * 12 + row) (ra_ix m row)]
    exact nm_e h
theorem ra_logWrite {post : SX → Prop} {g b : Nat} {v : Int32} (hg : g ≤ 6) (hb : b < ra_sz g) (h : post (xr, xb, nI g, xf, 1, nI b, v, c (ra_par g b * 12 + ra_row g b) ^^^ (ra_rec xf c g b ^^^ v), c, sg)) : wpX_logWrite post (xr, xb, nI g, xf, xj, xk, xv, xp, c, sg) (nI b) v := by
  have h48 := ra_szl g
  obtain ⟨h1, h2, h3, h4, h5, h6⟩ := ra_bf hg hb
  unfold wpX_logWrite
  refine ra_rowOfBlock hg (by omega) (ra_parityMemberOfBlock hg (by omega) (ra_recallBlock hg hb (nm_e ?_)))
  exact ra_cellAt (by omega) h1 (nm_e h)
theorem ra_putLoggedData {post : SX → Prop} {g b : Nat} (hg : g ≤ 6) (hb : b < ra_sz g) (h : post (xr, xb, nI g, xf, xj, nI b, xv, xp, ra_put xf c (ra_mem g b) (ra_row g b) xv, sg)) : wpX_putLoggedData post (xr, xb, nI g, xf, xj, nI b, xv, xp, c, sg) := by
  have h48 := ra_szl g
  obtain ⟨h1, h2, h3, h4, h5, h6⟩ := ra_bf hg hb
  unfold wpX_putLoggedData
  exact ra_rowOfBlock hg (by omega) (ra_memberOfBlock hg (by omega) (ra_putCell (by omega) h1 h))
theorem ra_putLoggedParity {post : SX → Prop} {g b : Nat} (hg : g ≤ 6) (hb : b < ra_sz g) (h : post (xr, xb, nI g, xf, xj, nI b, xv, xp, ra_put xf c (ra_par g b) (ra_row g b) xp, sg)) : wpX_putLoggedParity post (xr, xb, nI g, xf, xj, nI b, xv, xp, c, sg) := by
  have h48 := ra_szl g
  obtain ⟨h1, h2, h3, h4, h5, h6⟩ := ra_bf hg hb
  unfold wpX_putLoggedParity
  exact ra_rowOfBlock hg (by omega) (ra_parityMemberOfBlock hg (by omega) (ra_putCell (by omega) h1 h))
/-- writeUntil, point by point -/
theorem ra_wu0 {post : SX → Prop} {x : Int32} {v : Int32} (h : post (xr, xb, xm, xf, xj, xk, xv, xp, c, sg)) : wpX_writeUntil post (xr, xb, xm, xf, xj, xk, xv, xp, c, sg) x v 0 := by
  unfold wpX_writeUntil
  refine br_t (by decide) ?_
  unfold wX_writeUntil_10
  refine br_t (by decide) ?_
  unfold wX_writeUntil_19
  refine br_t (by decide) ?_
  unfold wX_writeUntil_28
  exact br_t (by decide) h
theorem ra_wu1 {post : SX → Prop} {g b : Nat} {v : Int32} (hg : g ≤ 6) (hb : b < ra_sz g) (h : post (xr, xb, nI g, xf, 1, nI b, v, c (ra_par g b * 12 + ra_row g b) ^^^ (ra_rec xf c g b ^^^ v), c, sg)) : wpX_writeUntil post (xr, xb, nI g, xf, xj, xk, xv, xp, c, sg) (nI b) v 1 := by
  unfold wpX_writeUntil
  refine br_f (by decide) (ra_logWrite hg hb ?_)
  unfold wX_writeUntil_10
  refine br_t (by decide) ?_
  unfold wX_writeUntil_19
  refine br_t (by decide) ?_
  unfold wX_writeUntil_28
  exact br_t (by decide) h
theorem ra_wu2 {post : SX → Prop} {g b : Nat} {v : Int32} (hg : g ≤ 6) (hb : b < ra_sz g) (h : post (xr, xb, nI g, xf, 1, nI b, v, c (ra_par g b * 12 + ra_row g b) ^^^ (ra_rec xf c g b ^^^ v), ra_put xf c (ra_mem g b) (ra_row g b) v, sg)) : wpX_writeUntil post (xr, xb, nI g, xf, xj, xk, xv, xp, c, sg) (nI b) v 2 := by
  unfold wpX_writeUntil
  refine br_f (by decide) (ra_logWrite hg hb ?_)
  unfold wX_writeUntil_10
  refine br_f (by decide) (ra_putLoggedData hg hb ?_)
  unfold wX_writeUntil_19
  refine br_t (by decide) ?_
  unfold wX_writeUntil_28
  exact br_t (by decide) h
theorem ra_wu3 {post : SX → Prop} {g b : Nat} {v : Int32} (hg : g ≤ 6) (hb : b < ra_sz g) (h : post (xr, xb, nI g, xf, 1, nI b, v, c (ra_par g b * 12 + ra_row g b) ^^^ (ra_rec xf c g b ^^^ v), ra_put xf (ra_put xf c (ra_mem g b) (ra_row g b) v) (ra_par g b) (ra_row g b) (c (ra_par g b * 12 + ra_row g b) ^^^ (ra_rec xf c g b ^^^ v)), sg)) : wpX_writeUntil post (xr, xb, nI g, xf, xj, xk, xv, xp, c, sg) (nI b) v 3 := by
  unfold wpX_writeUntil
  refine br_f (by decide) (ra_logWrite hg hb ?_)
  unfold wX_writeUntil_10
  refine br_f (by decide) (ra_putLoggedData hg hb ?_)
  unfold wX_writeUntil_19
  refine br_f (by decide) (ra_putLoggedParity hg hb ?_)
  unfold wX_writeUntil_28
  exact br_t (by decide) h
theorem ra_wu4 {post : SX → Prop} {g b : Nat} {v : Int32} (hg : g ≤ 6) (hb : b < ra_sz g) (h : post (xr, xb, nI g, xf, 0, nI b, v, c (ra_par g b * 12 + ra_row g b) ^^^ (ra_rec xf c g b ^^^ v), ra_put xf (ra_put xf c (ra_mem g b) (ra_row g b) v) (ra_par g b) (ra_row g b) (c (ra_par g b * 12 + ra_row g b) ^^^ (ra_rec xf c g b ^^^ v)), sg)) : wpX_writeUntil post (xr, xb, nI g, xf, xj, xk, xv, xp, c, sg) (nI b) v 4 := by
  unfold wpX_writeUntil
  refine br_f (by decide) (ra_logWrite hg hb ?_)
  unfold wX_writeUntil_10
  refine br_f (by decide) (ra_putLoggedData hg hb ?_)
  unfold wX_writeUntil_19
  refine br_f (by decide) (ra_putLoggedParity hg hb ?_)
  unfold wX_writeUntil_28
  exact br_f (by decide) h
/-- a whole write: every cell holds what it should of the blocks with v at b -/
theorem ra_write {post : SX → Prop} {B : Nat → Int32} {g b : Nat} {v : Int32} (hg : g ≤ 6) (hb : b < ra_sz g) (hI : ra_Inv (fun _ _ => True) B g xf c) (h : ∀ p c', ra_Inv (fun _ _ => True) (upd B b v) g xf c' → post (xr, xb, nI g, xf, 0, nI b, v, p, c', sg)) : wpX_writeUntil post (xr, xb, nI g, xf, xj, xk, xv, xp, c, sg) (nI b) v 4 :=
  ra_wu4 hg hb (h _ _ (ra_wr3 hg hb (fun e => ra_lp hg hb hI e) (ra_wr2 hg hb pk_us.symm (ra_wr1 hg hb hI))))
end
