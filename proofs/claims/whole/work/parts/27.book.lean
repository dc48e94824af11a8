/-! ===== a book as whole numbers (in the order of the reference), and what a plan of it is ===== -/
def bKeep (B : Nat → Int) (d : Nat) : Int := B (18 + 5 * d + 0)
def bCold (B : Nat → Int) (d : Nat) : Int := B (18 + 5 * d + 1)
def bPan (B : Nat → Int) (d : Nat) : Int := B (18 + 5 * d + 2)
def bOwn (B : Nat → Int) (d : Nat) : Int := B (18 + 5 * d + 3)
def bFst (B : Nat → Int) (d : Nat) : Int := B (18 + 5 * d + 4)
def kd (B : Nat → Int) (s : Nat) : Int := B (58 + 6 * s + 0)
def lg (B : Nat → Int) (s : Nat) : Int := B (58 + 6 * s + 1)
def wt (B : Nat → Int) (s : Nat) : Int := B (58 + 6 * s + 2)
def sr (B : Nat → Int) (s : Nat) : Int := B (58 + 6 * s + 3)
def on (B : Nat → Int) (s : Nat) : Int := B (58 + 6 * s + 4)
def tw (B : Nat → Int) (s : Nat) : Int := B (58 + 6 * s + 5)
def nO (B : Nat → Int) (d : Nat) : Nat := (bOwn B d).toNat
def nF (B : Nat → Int) (d : Nat) : Nat := (bFst B d).toNat
def WFd (B : Nat → Int) (d : Nat) : Prop := (0 ≤ bKeep B d ∧ bKeep B d ≤ 2) ∧ (0 ≤ bCold B d ∧ bCold B d ≤ 9) ∧ (0 ≤ bPan B d ∧ bPan B d ≤ 1) ∧ (1 ≤ bOwn B d ∧ bOwn B d ≤ 3) ∧ bFst B d = sm (bOwn B) d
def WFs (B : Nat → Int) (s : Nat) : Prop := (1 ≤ kd B s ∧ kd B s ≤ 5) ∧ (1 ≤ lg B s ∧ lg B s ≤ 30) ∧ (0 ≤ wt B s ∧ wt B s ≤ 1) ∧ (0 ≤ sr B s ∧ sr B s ≤ 2) ∧
  (kd B s = 1 → 0 ≤ on B s ∧ on B s ≤ 1 ∧ tw B s = -1000000) ∧ (kd B s = 2 → 0 ≤ on B s ∧ on B s ≤ tw B s ∧ tw B s ≤ 9) ∧
  (kd B s = 3 → sr B s = 2 ∧ on B s = -1000000 ∧ tw B s = -1000000) ∧ (kd B s = 4 → sr B s = 0 ∧ on B s = -1000000 ∧ tw B s = -1000000) ∧
  (kd B s = 5 → sr B s = 0 ∧ 0 ≤ on B s ∧ on B s ≤ 9 ∧ tw B s = -1000000)
def bc8 (D : Nat) : Nat := (D.testBit 0).toNat + (D.testBit 1).toNat + (D.testBit 2).toNat + (D.testBit 3).toNat + (D.testBit 4).toNat + (D.testBit 5).toNat + (D.testBit 6).toNat + (D.testBit 7).toNat
def WF (B : Nat → Int) : Prop :=
  (0 ≤ B 0 ∧ B 0 ≤ 3 ∧ 0 ≤ B 1 ∧ B 1 ≤ 3 ∧ 0 ≤ B 2 ∧ B 2 ≤ 3 ∧ 0 ≤ B 3 ∧ B 3 ≤ 9 ∧ 0 ≤ B 4 ∧ B 4 ≤ 9 ∧ 1 ≤ B 5 ∧ B 5 ≤ 3 ∧ 0 ≤ B 6 ∧ B 6 ≤ 9) ∧
  (0 ≤ B 7 ∧ B 7 ≤ 4 ∧ ∀ i : Nat, (i : Int) < B 7 → 0 ≤ B (8 + 2 * i) ∧ B (8 + 2 * i) ≤ B (8 + 2 * i + 1) ∧ B (8 + 2 * i + 1) ≤ 59) ∧
  (1 ≤ B 16 ∧ B 16 ≤ 8) ∧ (∀ d : Nat, (d : Int) < B 16 → WFd B d) ∧ B 17 = sm (bOwn B) (B 16).toNat ∧ (∀ s : Nat, (s : Int) < B 17 → WFs B s) ∧
  (0 ≤ B 202 ∧ 1 ≤ (B 202).toNat ∧ (B 202).toNat < 2 ^ (B 16).toNat ∧ bc8 (B 202).toNat ≤ 4) ∧ (0 ≤ B 203 ∧ B 203 ≤ 60 ∧ (B 203 < 60 → 1 ≤ B 1))
section WFS
variable {B : Nat → Int}
theorem wf_d (h : WF B) {d : Nat} (hd : (d : Int) < B 16) : WFd B d := h.2.2.2.1 d hd
theorem wf_n (h : WF B) {d : Nat} (hd : (d : Int) < B 16) : 1 ≤ nO B d ∧ nO B d ≤ 3 ∧ (nO B d : Int) = bOwn B d := by
  have := (wf_d h hd).2.2.2.1
  unfold nO
  omega
theorem wf_sm (h : WF B) : ∀ d : Nat, (d : Int) ≤ B 16 → (d : Int) ≤ sm (bOwn B) d ∧ sm (bOwn B) d ≤ 3 * d := by
  intro d
  induction d with
  | zero => intro _; exact ⟨Int.le_refl 0, Int.le_refl 0⟩
  | succ d ih =>
    intro hd
    have h1 := ih (by omega)
    have h2 := (wf_d h (d := d) (by omega)).2.2.2.1
    show _ ≤ sm (bOwn B) d + bOwn B d ∧ sm (bOwn B) d + bOwn B d ≤ _
    omega
theorem wf_f (h : WF B) {d : Nat} (hd : (d : Int) < B 16) : (nF B d : Int) = bFst B d ∧ bFst B d = sm (bOwn B) d := by
  have h1 := (wf_d h hd).2.2.2.2
  have h2 := wf_sm h d (by omega)
  unfold nF
  omega
theorem wf_mono (h : WF B) {d : Nat} : ∀ k : Nat, ((d + k : Nat) : Int) ≤ B 16 → sm (bOwn B) d ≤ sm (bOwn B) (d + k) := by
  intro k
  induction k with
  | zero => intro _; exact Int.le_refl _
  | succ k ih =>
    intro hk
    have h1 := ih (by omega)
    have h2 := (wf_d h (d := d + k) (by omega)).2.2.2.1
    show _ ≤ sm (bOwn B) (d + k) + bOwn B (d + k)
    omega
theorem wf_17 (h : WF B) : 1 ≤ B 17 ∧ B 17 ≤ 24 := by
  have h1 := h.2.2.2.2.1
  have h2 := h.2.2.1
  have h3 := wf_sm h (B 16).toNat (by omega)
  omega
theorem wf_fk (h : WF B) {d k : Nat} (hd : (d : Int) < B 16) (hk : k < nO B d) : ((nF B d + k : Nat) : Int) < B 17 ∧ nF B d + k < 24 := by
  have h1 := wf_f h hd
  have h2 := wf_n h hd
  have h3 := wf_mono h (d := d + 1) ((B 16).toNat - (d + 1)) (by omega)
  rw [show d + 1 + ((B 16).toNat - (d + 1)) = (B 16).toNat by omega, ← h.2.2.2.2.1] at h3
  have h4 : sm (bOwn B) (d + 1) = sm (bOwn B) d + bOwn B d := rfl
  have h5 := wf_17 h
  omega
theorem wf_s (h : WF B) {d k : Nat} (hd : (d : Int) < B 16) (hk : k < nO B d) : WFs B (nF B d + k) := h.2.2.2.2.2.1 _ (wf_fk h hd hk).1
theorem wf_D (h : WF B) : (B 202).toNat < 256 := by
  have h1 := h.2.2.2.2.2.2.1
  have h2 : 2 ^ (B 16).toNat ≤ 2 ^ 8 := Nat.pow_le_pow_right (by decide) (by have := h.2.2.1; omega)
  have : (2 : Nat) ^ 8 = 256 := rfl
  omega
end WFS
theorem tb_hi {D n d : Nat} (hD : D < 2 ^ n) (hd : n ≤ d) : D.testBit d = false := Nat.testBit_lt_two_pow (Nat.lt_of_lt_of_le hD (Nat.pow_le_pow_right (by decide) hd))
/-! choices -/
def wts (B : Nat → Int) (d k : Nat) : Int := if (k : Int) < bOwn B d - 1 then 1 + wt B (nF B d + k) else 1
def chn (B : Nat → Int) (d : Nat) : Nat := ((1 + bKeep B d) * wts B d 0 * wts B d 1).toNat
def cE (B : Nat → Int) (d c : Nat) : Int := (c : Int) % (1 + bKeep B d)
def cL (B : Nat → Int) (d c : Nat) : Int := (c : Int) / (1 + bKeep B d)
def cW1 (B : Nat → Int) (d c : Nat) : Int := cL B d c % wts B d 0
def cW2 (B : Nat → Int) (d c : Nat) : Int := cL B d c / wts B d 0
def wv (B : Nat → Int) (d c k : Nat) : Int := if k + 1 = nO B d then 0 else if k = 0 then cW1 B d c else cW2 B d c
-- j steps from the last one on: where the row of them begins
def en (B : Nat → Int) (d c : Nat) (t : Int) : Nat → Int
  | 0 => t - cE B d c
  | j + 1 => en B d c t j - wv B d c (nO B d - 1 - j) - lg B (nF B d + (nO B d - 1 - j))
def bg (B : Nat → Int) (t : Int) (d c k : Nat) : Int := en B d c t (nO B d - k)
def lgs (B : Nat → Int) (d k : Nat) : Int := lg B (nF B d + k)
def lsr (B : Nat → Int) (d : Nat) : Nat → Int
  | 0 => 0
  | j + 1 => lsr B d j + (if kd B (nF B d + (nO B d - 1 - j)) = 5 then on B (nF B d + (nO B d - 1 - j)) * lg B (nF B d + (nO B d - 1 - j)) else 0)
def cst (B : Nat → Int) (d c : Nat) : Int := cE B d c * bCold B d + cW1 B d c + cW2 B d c + lsr B d (nO B d)
/-! wants: 0 rings, 1 big ones, 2 shelves, 3 hands, 4 pans -/
def ub (B : Nat → Int) (w s : Nat) (b l : Int) (m : Nat) : Int :=
  if w = 0 then (if kd B s = 1 ∧ b ≤ m ∧ (m : Int) < b + l then 1 else 0)
  else if w = 1 then (if (kd B s = 1 ∧ on B s = 1) ∧ b ≤ m ∧ (m : Int) < b + l then 1 else 0)
  else if w = 2 then (if kd B s = 2 ∧ b ≤ m ∧ (m : Int) < b + l then 1 else 0)
  else (if (sr B s = 2 ∨ (sr B s = 1 ∧ (m : Int) = b)) ∧ b ≤ m ∧ (m : Int) < b + l then 1 else 0)
def ud (B : Nat → Int) (w d : Nat) (b l : Nat → Int) (m : Nat) : Int :=
  if w = 4 then (if bPan B d = 1 ∧ b 0 ≤ m ∧ (m : Int) < b (nO B d - 1) + l (nO B d - 1) then 1 else 0)
  else sm (fun k => ub B w (nF B d + k) (b k) (l k) m) (nO B d)
def mxx (f : Nat → Int) : Nat → Int
  | 0 => 0
  | n + 1 => max (mxx f n) (f n)
def mnn (f : Nat → Int) : Nat → Int
  | 0 => 9
  | n + 1 => min (mnn f n) (f n)
def ol (B : Nat → Int) (s : Nat) (b l : Int) (m : Nat) : Int := if kd B s = 2 ∧ b ≤ m ∧ (m : Int) < b + l then on B s else 0
def oh (B : Nat → Int) (s : Nat) (b l : Int) (m : Nat) : Int := if kd B s = 2 ∧ b ≤ m ∧ (m : Int) < b + l then tw B s else 9
def ld (B : Nat → Int) (d : Nat) (b l : Nat → Int) (m : Nat) : Int := mxx (fun k => ol B (nF B d + k) (b k) (l k) m) (nO B d)
def hd (B : Nat → Int) (d : Nat) (b l : Nat → Int) (m : Nat) : Int := mnn (fun k => oh B (nF B d + k) (b k) (l k) m) (nO B d)
-- of the dishes of a set ahead of e
def tt (B : Nat → Int) (D : Nat) (b l : Nat → Nat → Int) (w e m : Nat) : Int := sm (fun d => if D.testBit d then ud B w d (b d) (l d) m else 0) e
def tlo (B : Nat → Int) (D : Nat) (b l : Nat → Nat → Int) (e m : Nat) : Int := mxx (fun d => if D.testBit d then ld B d (b d) (l d) m else 0) e
def thi (B : Nat → Int) (D : Nat) (b l : Nat → Nat → Int) (e m : Nat) : Int := mnn (fun d => if D.testBit d then hd B d (b d) (l d) m else 9) e
/-! what is given -/
def awy (B : Nat → Int) (m : Nat) (n : Nat) : Int := sm (fun i => if B (8 + 2 * i) ≤ m ∧ (m : Int) ≤ B (8 + 2 * i + 1) then 1 else 0) n
def gv (B : Nat → Int) (h o : Int) (w m : Nat) : Int :=
  if w = 0 then B 0 + (B 1 - (if (m : Int) < o then 0 else 1)) else if w = 1 then B 1 - (if (m : Int) < o then 0 else 1) else if w = 2 then B 2
  else if w = 3 then (if 0 ≤ h - awy B m (B 7).toNat then h - awy B m (B 7).toNat else 0) else B 6
/-! plans -/
def ful (B : Nat → Int) (h o : Int) (D : Nat) (b l : Nat → Nat → Int) (e : Nat) : Prop :=
  ∀ m : Nat, m < 60 → (∀ w, w < 5 → tt B D b l w e m ≤ gv B h o w m) ∧ hL (B 4) (tlo B D b l e) m ≤ hM (B 3) (thi B D b l e) m
def PLp (B : Nat → Int) (t h o : Int) (X : Nat → Nat → Prop) (D e : Nat) (c : Nat → Nat) : Prop :=
  (∀ d, d < e → D.testBit d = true → 0 ≤ bg B t d (c d) 0 ∧ X d (c d)) ∧ ful B h o D (fun d => bg B t d (c d)) (lgs B) e
def csm (B : Nat → Int) (D e : Nat) (c : Nat → Nat) : Int := sm (fun d => if D.testBit d then cst B d (c d) else 0) e
noncomputable def SK (B : Nat → Int) (t h o : Int) (X : Nat → Nat → Prop) (D : Nat) (any : Bool) : Option (Nat → Nat) :=
  exS (fun d => D.testBit d) (chn B) (lfP (PLp B t h o X D 8) (csm B D 8) any) 8 0 (fun _ => 0) none
