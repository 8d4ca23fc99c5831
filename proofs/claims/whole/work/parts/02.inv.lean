def ra_sz (g : Nat) : Nat := if g = 6 then 48 else 24
def ra_row (g b : Nat) : Nat := if g = 6 ∨ b < 4 * g then b / 4 else b / 2
def ra_wb (g b : Nat) : Nat := if g = 6 ∨ b < 4 * g then 5 else 3
def ra_mem (g b : Nat) : Nat := if g = 6 ∨ b < 4 * g then (b / 4 + b % 4) % 5 else (b / 2 + b % 2) % 3
def ra_par (g b : Nat) : Nat := if g = 6 ∨ b < 4 * g then (b / 4 + 4) % 5 else (b / 2 + 2) % 3
theorem ra_szl (g : Nat) : ra_sz g ≤ 48 := by
  unfold ra_sz
  split <;> omega
theorem ra_sz24 {g b : Nat} (hb : b < ra_sz g) (h : g ≠ 6) : b < 24 := by
  unfold ra_sz at hb
  rw [if_neg h] at hb
  exact hb
theorem ra_bf {g b : Nat} (hg : g ≤ 6) (hb : b < ra_sz g) : ra_row g b < 12 ∧ ra_w g (ra_row g b) = ra_wb g b ∧ ra_mem g b < ra_wb g b ∧ ra_par g b < ra_wb g b ∧ ra_mem g b ≠ ra_par g b ∧ ra_wb g b ≤ 5 := by
  have h48 := ra_szl g
  by_cases hm : g = 6 ∨ b < 4 * g
  · unfold ra_row ra_wb ra_mem ra_par
    simp only [if_pos hm]
    refine ⟨by omega, ra_w5 (by omega), by omega, by omega, by omega, by omega⟩
  · unfold ra_row ra_wb ra_mem ra_par
    simp only [if_neg hm]
    have := ra_sz24 hb (by omega)
    refine ⟨by omega, ra_w3 (by omega) (by omega), by omega, by omega, by omega, by omega⟩
theorem ra_Dmem {B : Nat → Int32} {g b : Nat} (hg : g ≤ 6) (hb : b < ra_sz g) : ra_D B g (ra_mem g b) (ra_row g b) = B b := by
  have hw := (ra_bf hg hb).2.1
  by_cases hm : g = 6 ∨ b < 4 * g
  · unfold ra_wb at hw
    rw [if_pos hm] at hw
    rw [ra_D5 hw]
    unfold ra_row ra_mem ra_5
    simp only [if_pos hm]
    rw [if_neg (by omega)]
    exact congrArg B (by omega)
  · unfold ra_wb at hw
    rw [if_neg hm] at hw
    rw [ra_D3 hw]
    unfold ra_row ra_mem ra_3
    simp only [if_neg hm]
    rw [if_neg (by omega)]
    exact congrArg B (by omega)
theorem ra_5c {B B' : Nat → Int32} {row p : Nat} (hp : p < 5) (h : ∀ j, 4 * row ≤ j → j < 4 * row + 4 → B j = B' j) : ra_5 B row p = ra_5 B' row p := by
  unfold ra_5
  split
  · rw [h (4 * row) (by omega) (by omega), h (4 * row + 1) (by omega) (by omega), h (4 * row + 2) (by omega) (by omega), h (4 * row + 3) (by omega) (by omega)]
  · exact h _ (by omega) (by omega)
theorem ra_3c {B B' : Nat → Int32} {row p : Nat} (hp : p < 3) (h : ∀ j, 2 * row ≤ j → j < 2 * row + 2 → B j = B' j) : ra_3 B row p = ra_3 B' row p := by
  unfold ra_3
  split
  · rw [h (2 * row) (by omega) (by omega), h (2 * row + 1) (by omega) (by omega)]
  · exact h _ (by omega) (by omega)
theorem ra_Dne {B : Nat → Int32} {g b m row : Nat} {v : Int32} (hg : g ≤ 6) (hb : b < ra_sz g) (hm : m < ra_w g row) (h : row = ra_row g b → m ≠ ra_mem g b ∧ m ≠ ra_par g b) : ra_D (upd B b v) g m row = ra_D B g m row := by
  unfold ra_row ra_mem ra_par at h
  rcases ra_wc g row with e | e | e
  · rw [ra_D5 e, ra_D5 e]
    have hi := ra_w5i e
    by_cases hv : g = 6 ∨ b < 4 * g
    · simp only [if_pos hv] at h
      by_cases hr : row = b / 4
      · unfold ra_5
        rw [if_neg (by omega), if_neg (by omega), pk_un (by omega)]
      · exact ra_5c (by omega) (fun j _ _ => pk_un (by omega))
    · exact ra_5c (by omega) (fun j _ _ => pk_un (by omega))
  · rw [ra_D3 e, ra_D3 e]
    have hi := ra_w3i e
    by_cases hv : g = 6 ∨ b < 4 * g
    · exact ra_3c (by omega) (fun j _ _ => pk_un (by omega))
    · simp only [if_neg hv] at h
      by_cases hr : row = b / 2
      · unfold ra_3
        rw [if_neg (by omega), if_neg (by omega), pk_un (by omega)]
      · exact ra_3c (by omega) (fun j _ _ => pk_un (by omega))
  · omega
theorem ra_5p {B : Nat → Int32} {row q : Nat} {v : Int32} (hq : q < 4) : ra_5 (upd B (4 * row + q) v) row 4 = ra_5 B row 4 ^^^ (B (4 * row + q) ^^^ v) := by
  have h : q = 0 ∨ q = 1 ∨ q = 2 ∨ q = 3 := by omega
  rcases h with rfl | rfl | rfl | rfl <;> simp [ra_5, upd, Int32.xor_assoc, ra_xl, ra_xx, Int32.xor_comm]
theorem ra_3p {B : Nat → Int32} {row q : Nat} {v : Int32} (hq : q < 2) : ra_3 (upd B (2 * row + q) v) row 2 = ra_3 B row 2 ^^^ (B (2 * row + q) ^^^ v) := by
  have h : q = 0 ∨ q = 1 := by omega
  rcases h with rfl | rfl <;> simp [ra_3, upd, Int32.xor_assoc, ra_xl, ra_xx, Int32.xor_comm]
theorem ra_Dpar {B : Nat → Int32} {g b : Nat} {v : Int32} (hg : g ≤ 6) (hb : b < ra_sz g) : ra_D (upd B b v) g (ra_par g b) (ra_row g b) = ra_D B g (ra_par g b) (ra_row g b) ^^^ (B b ^^^ v) := by
  have hw := (ra_bf hg hb).2.1
  by_cases hm : g = 6 ∨ b < 4 * g
  · unfold ra_wb at hw
    rw [if_pos hm] at hw
    rw [ra_D5 hw, ra_D5 hw]
    unfold ra_row ra_par
    simp only [if_pos hm]
    rw [show ((b / 4 + 4) % 5 + 4 * (b / 4)) % 5 = 4 by omega]
    have := ra_5p (B := B) (row := b / 4) (q := b % 4) (v := v) (by omega)
    rw [show 4 * (b / 4) + b % 4 = b by omega] at this
    exact this
  · unfold ra_wb at hw
    rw [if_neg hm] at hw
    rw [ra_D3 hw, ra_D3 hw]
    unfold ra_row ra_par
    simp only [if_neg hm]
    rw [show ((b / 2 + 2) % 3 + 2 * (b / 2)) % 3 = 2 by omega]
    have := ra_3p (B := B) (row := b / 2) (q := b % 2) (v := v) (by omega)
    rw [show 2 * (b / 2) + b % 2 = b by omega] at this
    exact this
/-- every cell that R names, of a member that hasn't failed, holds what it should -/
def ra_Inv (R : Nat → Nat → Prop) (B : Nat → Int32) (g : Nat) (f : Int32) (c : Nat → Int32) : Prop := ∀ row m, row < 12 → R row m → m < ra_w g row → nI m ≠ f → c (m * 12 + row) = ra_D B g m row
def ra_put (f : Int32) (c : Nat → Int32) (m row : Nat) (v : Int32) : Nat → Int32 := if nI m = f then c else upd c (m * 12 + row) v
theorem ra_updI {R R' : Nat → Nat → Prop} {B c : Nat → Int32} {g m0 row0 : Nat} {f v : Int32} (hr : row0 < 12) (hI : ra_Inv R B g f c) (hv : R' row0 m0 → m0 < ra_w g row0 → nI m0 ≠ f → v = ra_D B g m0 row0) (hR : ∀ row m, row < 12 → m < ra_w g row → R' row m → ¬ (row = row0 ∧ m = m0) → R row m) : ra_Inv R' B g f (upd c (m0 * 12 + row0) v) := by
  intro row m h1 h2 h3 h4
  by_cases e : row = row0 ∧ m = m0
  · obtain ⟨rfl, rfl⟩ := e
    rw [pk_us]
    exact hv h2 h3 h4
  · rw [pk_un (by omega)]
    exact hI row m h1 (hR row m h1 h3 h2 e) h3 h4
theorem ra_putI {R R' : Nat → Nat → Prop} {B c : Nat → Int32} {g m0 row0 : Nat} {f v : Int32} (hr : row0 < 12) (hI : ra_Inv R B g f c) (hv : R' row0 m0 → m0 < ra_w g row0 → nI m0 ≠ f → v = ra_D B g m0 row0) (hR : ∀ row m, row < 12 → m < ra_w g row → R' row m → ¬ (row = row0 ∧ m = m0) → R row m) : ra_Inv R' B g f (ra_put f c m0 row0 v) := by
  unfold ra_put
  split
  · rename_i e
    intro row m h1 h2 h3 h4
    refine hI row m h1 (hR row m h1 h3 h2 ?_) h3 h4
    rintro ⟨_, rfl⟩
    exact h4 e
  · exact ra_updI hr hI hv hR
theorem ra_IR {R R' : Nat → Nat → Prop} {B c : Nat → Int32} {g : Nat} {f : Int32} (hI : ra_Inv R B g f c) (hR : ∀ row m, row < 12 → m < ra_w g row → R' row m → R row m) : ra_Inv R' B g f c := fun row m h1 h2 h3 h4 => hI row m h1 (hR row m h1 h3 h2) h3 h4
def ra_rec (f : Int32) (c : Nat → Int32) (g b : Nat) : Int32 := if nI (ra_mem g b) = f then ra_xo (fun m => c (m * 12 + ra_row g b)) (nI (ra_mem g b)) (ra_wb g b) else c (ra_mem g b * 12 + ra_row g b)
theorem ra_recB {R : Nat → Nat → Prop} {B c : Nat → Int32} {g b : Nat} {f : Int32} (hg : g ≤ 6) (hb : b < ra_sz g) (hI : ra_Inv R B g f c) (hR : ∀ m, R (ra_row g b) m) : ra_rec f c g b = B b := by
  obtain ⟨h1, h2, h3, h4, h5, h6⟩ := ra_bf hg hb
  unfold ra_rec
  split
  · rename_i e
    rw [← h2, ra_xD (by omega) (fun m a n => hI (ra_row g b) m h1 (hR m) a (fun z => n ?_)), ra_Dmem hg hb]
    rw [← e, ra_ne (by omega) (by omega)] at z
    exact z
  · rename_i e
    rw [hI (ra_row g b) (ra_mem g b) h1 (hR _) (by omega) e, ra_Dmem hg hb]
/-- the write of v to b: what is left to hold once data and parity are put in -/
theorem ra_wr1 {B c : Nat → Int32} {g b : Nat} {f v : Int32} (hg : g ≤ 6) (hb : b < ra_sz g) (hI : ra_Inv (fun _ _ => True) B g f c) : ra_Inv (fun row m => row = ra_row g b → m ≠ ra_mem g b ∧ m ≠ ra_par g b) (upd B b v) g f c := by
  intro row m h1 h2 h3 h4
  rw [ra_Dne hg hb h3 h2]
  exact hI row m h1 trivial h3 h4
theorem ra_wr2 {B c : Nat → Int32} {g b : Nat} {f v : Int32} (hg : g ≤ 6) (hb : b < ra_sz g) (hv : v = B b) (hI : ra_Inv (fun row m => row = ra_row g b → m ≠ ra_mem g b ∧ m ≠ ra_par g b) B g f c) : ra_Inv (fun row m => row = ra_row g b → m ≠ ra_par g b) B g f (ra_put f c (ra_mem g b) (ra_row g b) v) := by
  refine ra_putI (ra_bf hg hb).1 hI (fun _ _ _ => by rw [ra_Dmem hg hb, hv]) (fun row m _ _ h n e => ⟨fun z => n ⟨e, z⟩, h e⟩)
theorem ra_wr3 {B c : Nat → Int32} {g b : Nat} {f v : Int32} (hg : g ≤ 6) (hb : b < ra_sz g) (hv : nI (ra_par g b) ≠ f → v = ra_D B g (ra_par g b) (ra_row g b)) (hI : ra_Inv (fun row m => row = ra_row g b → m ≠ ra_par g b) B g f c) : ra_Inv (fun _ _ => True) B g f (ra_put f c (ra_par g b) (ra_row g b) v) :=
  ra_putI (ra_bf hg hb).1 hI (fun _ _ h => hv h) (fun row m _ _ _ n e z => n ⟨e, z⟩)
theorem ra_lp {B c : Nat → Int32} {g b : Nat} {f v : Int32} (hg : g ≤ 6) (hb : b < ra_sz g) (hI : ra_Inv (fun _ _ => True) B g f c) (hf : nI (ra_par g b) ≠ f) : c (ra_par g b * 12 + ra_row g b) ^^^ (ra_rec f c g b ^^^ v) = ra_D (upd B b v) g (ra_par g b) (ra_row g b) := by
  have hw := (ra_bf hg hb)
  rw [ra_Dpar hg hb, ra_recB hg hb hI (fun _ => trivial), hI (ra_row g b) (ra_par g b) hw.1 trivial (by omega) hf]
