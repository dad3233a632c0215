/-! what a block of 32 numbers goes through: rows of numbers, 0 .. 15 row 0, 16 .. 31 row 1 -/
def cnt (p : Int → Bool) : Nat → Int
  | 0 => 0
  | n + 1 => cnt p n + (if p n then 1 else 0)
theorem cnt_step (p : Int → Bool) {i : Int} (h : 0 ≤ i) : cnt p (i + 1).toNat = cnt p i.toNat + (if p i then 1 else 0) := by
  rw [show (i + 1).toNat = i.toNat + 1 by omega]
  show cnt p i.toNat + (if p (i.toNat : Int) then 1 else 0) = _
  rw [Int.toNat_of_nonneg h]
theorem cnt_bd (p : Int → Bool) : ∀ n : Nat, 0 ≤ cnt p n ∧ cnt p n ≤ n
  | 0 => by unfold cnt; omega
  | n + 1 => by
    have h := cnt_bd p n
    unfold cnt
    split <;> omega
theorem cnt_congr {p q : Int → Bool} : ∀ {n : Nat}, (∀ i : Int, 0 ≤ i → i < n → p i = q i) → cnt p n = cnt q n
  | 0, _ => rfl
  | n + 1, h => by
    unfold cnt
    rw [cnt_congr (fun i h1 h2 => h i h1 (by omega)), h n (by omega) (by omega)]
def mk (m p : Int) : Bool := (m / 2 ^ p.toNat) % 2 == 1
def shineF (s : Row) : Row := fun i => if 0 ≤ i ∧ i < 32 then lgt (s i) else 0
def prv (i : Int) : Int := if i % 16 = 0 then i + 15 else i - 1
def spreadF (a : Int) (f : Row) : Row := fun i => if 0 ≤ i ∧ i < 32 then (f i + a * f (prv i)) % 97 else f i
def twistF (a b c d : Int) (f : Row) : Row := fun i => if 0 ≤ i ∧ i < 16 then (a * f i + b * f (16 + i)) % 97 else if 16 ≤ i ∧ i < 32 then (c * f (i - 16) + d * f i) % 97 else f i
def slipF (a q : Int) (f : Row) : Row := fun i => if (a ≤ i ∧ i < 16) ∨ (16 + a ≤ i ∧ i < 32) then (f i * lgt q) % 97 else f i
def lateF (n : Int) (f : Row) : Row := fun i => if 16 ≤ i ∧ i < 32 then f (16 + (i - n) % 16) else f i
def hitF (p v : Int) (f : Row) : Row := fun i => if i = p then (f i + v) % 97 else f i
def mulF (g : Int) (f : Row) : Row := fun i => if 0 ≤ i ∧ i < 32 then (f i * g) % 97 else f i
def zo (n : Int) (f : Row) : Prop := ∀ i, ¬ (0 ≤ i ∧ i < n) → f i = 0
def errF (f s : Row) : Int := cnt (fun i => !(dec (f i) == s i)) 32
def errM (m : Int) (f s : Row) : Int := cnt (fun i => mk m (i % 16) && !(dec (f i) == s i)) 32
-- numbers stay numbers
theorem r97_shine (s : Row) : r97 32 (shineF s) := by
  intro i h1 h2; have := lgt_bd (s i); unfold shineF; rw [if_pos ⟨h1, h2⟩]; omega
theorem r97_spread {a : Int} {f : Row} : r97 32 (spreadF a f) := by
  intro i h1 h2; unfold spreadF; rw [if_pos ⟨h1, h2⟩]; exact md97 _
theorem r97_twist {a b c d : Int} {f : Row} : r97 32 (twistF a b c d f) := by
  intro i h1 h2; unfold twistF
  by_cases h : i < 16
  · rw [if_pos ⟨h1, h⟩]; exact md97 _
  · rw [if_neg (by omega), if_pos ⟨by omega, h2⟩]; exact md97 _
theorem r97_slip {a q : Int} {f : Row} (h : r97 32 f) : r97 32 (slipF a q f) := by
  intro i h1 h2; unfold slipF; split
  · exact md97 _
  · exact h i h1 h2
theorem r97_late {n : Int} {f : Row} (h : r97 32 f) : r97 32 (lateF n f) := by
  intro i h1 h2; unfold lateF; split
  · exact h _ (by omega) (by omega)
  · exact h i h1 h2
theorem r97_hit {p v : Int} {f : Row} (h : r97 32 f) : r97 32 (hitF p v f) := by
  intro i h1 h2; unfold hitF; split
  · exact md97 _
  · exact h i h1 h2
theorem r97_mul {g : Int} {f : Row} : r97 32 (mulF g f) := by
  intro i h1 h2; unfold mulF; rw [if_pos ⟨h1, h2⟩]; exact md97 _
/-- only the rows of the block b change -/
def Bch (b : Nat) (σ τ : St) : Prop := ∀ a, ¬ (b + 1 ≤ a ∧ a ≤ b + 4) → τ a = σ a
theorem Bch.rf {b : Nat} {σ : St} : Bch b σ σ := fun _ _ => rfl
theorem Bch.tr {b : Nat} {σ τ υ : St} (h1 : Bch b σ τ) (h2 : Bch b τ υ) : Bch b σ υ := fun a h => (h2 a h).trans (h1 a h)
theorem Bch.set {b a : Nat} {σ : St} {f : Row} (h : b + 1 ≤ a ∧ a ≤ b + 4) : Bch b σ (setr σ a f) := fun x hx => setr_ne σ f (by omega)
