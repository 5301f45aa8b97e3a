/-! TEXTS: what a byte tells as a part of a thing -/
def pa_sp (t : Nat) : Nat := if t = 0 then 3 else 4
def pa_cap (t : Nat) : Nat := if t = 0 then 23 else 47
def pa_v (t p b : Nat) : Option Nat :=
  if t = 0 then
    (if p = 0 then (if b = 112 then some 0 else if b = 111 then some 1 else if b = 109 then some 2 else if b = 98 then some 3 else none)
     else if p = 1 then (if 97 ≤ b ∧ b ≤ 120 then some (b - 97) else none) else if b = 59 then some 0 else none)
  else if t = 1 then
    (if p < 2 then (if 48 ≤ b ∧ b ≤ 55 then some (b - 48) else none) else if p = 2 then (if 49 ≤ b ∧ b ≤ 57 then some (b - 48) else none) else if b = 59 then some 0 else none)
  else
    (if p = 0 then (if 97 ≤ b ∧ b ≤ 120 then some (b - 97) else none) else if p < 3 then (if 48 ≤ b ∧ b ≤ 55 then some (b - 48) else none) else if b = 59 then some 0 else none)
/-- S: 0 how many bytes of each text, 1 to 3 the texts' bytes; 4: 0 how many echoes, 1 how many counted; 5, 6 echoes' days, persons; 7, 8, 9 counted days, words, uses -/
def pa_at (S : md_T) (t i : Nat) : Option Nat := pa_v t (i % pa_sp t) (S (1 + t) i)
def pa_bad (S : md_T) (t : Nat) : Nat → Bool := fun i => (pa_at S t i).isNone
def pa_w (S : md_T) (t : Nat) : Nat := md_fst (pa_bad S t) (S 0 t) 0
/-- the fault; none: it is well -/
def pa_f (S : md_T) (t : Nat) : Option Nat := if pa_w S t < S 0 t then some (pa_w S t) else if S 0 t = 0 ∨ S 0 t % pa_sp t = pa_sp t - 1 then none else some (S 0 t)
def pa_n (S : md_T) (t : Nat) : Nat := if pa_f S t = none then (S 0 t + 1) / pa_sp t else 0
def pa_x (S : md_T) (t i : Nat) : Nat := (pa_at S t i).getD 0
def pa_T (S : md_T) : md_T := fun o j =>
  if o = 0 then (if j = 0 then pa_n S 0 else if j = 3 then pa_n S 1 else if j = 7 then pa_n S 2 else 0)
  else if o = 1 then pa_x S 0 (3 * j) else if o = 2 then pa_x S 0 (3 * j + 1)
  else if o = 3 then pa_x S 1 (4 * j) else if o = 4 then pa_x S 1 (4 * j + 1) else if o = 5 then pa_x S 1 (4 * j + 2)
  else if o = 6 then pa_x S 2 (4 * j) else if o = 7 then pa_x S 2 (4 * j + 1) else if o = 8 then pa_x S 2 (4 * j + 2) else 0
def pa_e (w : Int32) (o : Option Nat) : Int32 := match o with
  | some v => nI v
  | none => w
theorem pa_person : ∀ p, p < 3 → ∀ b, b < 256 → fX7_personOf (nI p) (nI b) = pa_e (-9) (pa_v 0 p b) := by decide +kernel
theorem pa_word : ∀ p, p < 4 → ∀ b, b < 256 → fX7_wordOf (nI p) (nI b) = pa_e (-9) (pa_v 1 p b) := by decide +kernel
theorem pa_meeting : ∀ p, p < 4 → ∀ b, b < 256 → fX7_meetingOf (nI p) (nI b) = pa_e (-9) (pa_v 2 p b) := by decide +kernel
theorem pa_mean_c {r : Nat} {x y : Int32} {M M' : mm_M} (h0 : M r 0 = M' r 0) (h1 : M r 1 = M' r 1) : fX4_meaning r x y M = fX4_meaning r x y M' := by
  unfold fX4_meaning fX4_meaning_J72
  rw [h0, h1]
theorem pa_mean0 : ∀ p, p < 3 → ∀ b, b < 256 → fX4_meaning 0 (nI p) (nI b) (fun _ j => if j = 0 then nI 0 else nI 3) = pa_e (-1) (pa_v 0 p b) := by decide +kernel
theorem pa_mean1 : ∀ p, p < 4 → ∀ b, b < 256 → fX4_meaning 0 (nI p) (nI b) (fun _ j => if j = 0 then nI 1 else nI 4) = pa_e (-1) (pa_v 1 p b) := by decide +kernel
theorem pa_mean2 : ∀ p, p < 4 → ∀ b, b < 256 → fX4_meaning 0 (nI p) (nI b) (fun _ j => if j = 0 then nI 2 else nI 4) = pa_e (-1) (pa_v 2 p b) := by decide +kernel
theorem pa_v_lt {t p b v : Nat} (h : pa_v t p b = some v) : v < 24 := by
  unfold pa_v at h
  repeat' (split at h)
  all_goals first | (cases h; omega) | cases h
