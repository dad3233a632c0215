/-! base: loops by a counter, rows, numbers modulo 97 -/
theorem loopUp {Q : Int → Prop} {a n : Int} (hend : Q n) (hstep : ∀ i, a ≤ i → i < n → Q (i + 1) → Q i) (h : a ≤ n) : Q a := by
  have key : ∀ (k : Nat) (i : Int), i = n - k → a ≤ i → Q i := by
    intro k
    induction k with
    | zero => intro i hi _; rw [show i = n by omega]; exact hend
    | succ k ih => intro i hi ha; exact hstep i ha (by omega) (ih (i + 1) (by omega) (by omega))
  exact key (n - a).toNat a (by omega) (by omega)
theorem loopDn {Q : Int → Prop} {a b : Int} (hend : Q a) (hstep : ∀ i, a < i → i ≤ b → Q (i + (-1)) → Q i) (h : a ≤ b) : Q b := by
  have key : ∀ (k : Nat) (i : Int), i = a + k → i ≤ b → Q i := by
    intro k
    induction k with
    | zero => intro i hi _; rw [show i = a by omega]; exact hend
    | succ k ih => intro i hi hb; exact hstep i (by omega) hb (ih (i + (-1)) (by omega) (by omega))
  exact key (b - a).toNat b (by omega) (by omega)
abbrev Row : Type := Int → Int
def setr (σ : St) (o : Nat) (f : Row) : St := fun a => if a = o then f else σ a
theorem setr_at (σ : St) (o : Nat) (f : Row) : setr σ o f o = f := by simp [setr]
theorem setr_ne (σ : St) {o a : Nat} (f : Row) (h : a ≠ o) : setr σ o f a = σ a := by simp [setr, h]
theorem setr_setr (σ : St) (o : Nat) (f g : Row) : setr (setr σ o f) o g = setr σ o g := by
  funext a; simp only [setr]; split <;> rfl
theorem setr_id (σ : St) (o : Nat) : setr σ o (σ o) = σ := by
  funext a; simp only [setr]; split
  · next h => rw [h]
  · rfl
theorem wr_setr (σ : St) (o : Nat) (i v : Int) : wr σ o i v = setr σ o (fun j => if j = i then v else σ o j) := by
  funext a j
  unfold wr setr
  by_cases ha : a = o
  · subst ha; simp
  · simp [ha]
theorem wr_wr (σ : St) (o : Nat) (f : Row) (i v : Int) : wr (setr σ o f) o i v = setr σ o (fun j => if j = i then v else f j) := by
  rw [wr_setr, setr_setr, setr_at]
theorem cp_setr (σ : St) (p : Nat) (sp : Int) (q : Nat) (dp n : Int) : cp σ p sp q dp n = setr σ q (fun j => if dp ≤ j ∧ j < dp + n then σ p (j - dp + sp) else σ q j) := by
  funext a j
  unfold cp setr
  by_cases ha : a = q
  · subst ha; simp
  · simp [ha]
/-- the first k places by f, the rest by g -/
def win (k : Int) (f g : Row) : Row := fun j => if 0 ≤ j ∧ j < k then f j else g j
theorem win_0 (f g : Row) : win 0 f g = g := by
  funext j; unfold win; rw [if_neg (by omega)]
theorem win_in {k : Int} {f g : Row} {j : Int} (h : 0 ≤ j ∧ j < k) : win k f g j = f j := by unfold win; rw [if_pos h]
theorem win_out {k : Int} {f g : Row} {j : Int} (h : ¬ (0 ≤ j ∧ j < k)) : win k f g j = g j := by unfold win; rw [if_neg h]
theorem win_step {k : Int} (f g : Row) (hk : 0 ≤ k) {v : Int} (hv : v = f k) : (fun j => if j = k then v else win k f g j) = win (k + 1) f g := by
  funext j
  by_cases h : j = k
  · subst h; rw [if_pos rfl, win_in ⟨hk, by omega⟩, hv]
  · rw [if_neg h]
    unfold win
    by_cases h2 : 0 ≤ j ∧ j < k
    · rw [if_pos h2, if_pos (by omega)]
    · rw [if_neg h2, if_neg (by omega)]
theorem wr_win (σ : St) (o : Nat) {k : Int} (f g : Row) (hk : 0 ≤ k) {v : Int} (hv : v = f k) : wr (setr σ o (win k f g)) o k v = setr σ o (win (k + 1) f g) := by
  rw [wr_wr, win_step f g hk hv]
/-- rows agree on the first n places -/
def eqn (n : Int) (f g : Row) : Prop := ∀ i, 0 ≤ i → i < n → f i = g i
-- numbers modulo 97
def lgt (s : Int) : Int := if s = 0 then 1 else if s = 1 then 22 else if s = 2 then 96 else 75
theorem lgt_bd (s : Int) : 1 ≤ lgt s ∧ lgt s ≤ 96 := by unfold lgt; split <;> (try split) <;> (try split) <;> omega
def dec (v : Int) : Int := if v ≤ 11 then 0 else if v ≤ 48 then 1 else if v ≤ 85 then 3 else 2
theorem dec_bd (v : Int) : 0 ≤ dec v ∧ dec v ≤ 3 := by unfold dec; split <;> (try split) <;> (try split) <;> omega
theorem rot105 {s : Int} (h : 0 ≤ s ∧ s ≤ 3) : rot 105 s = lgt s := by
  have : ∀ n : Nat, n < 4 → rot 105 (n : Int) = lgt n := by decide
  have h2 := this s.toNat (by omega)
  rwa [Int.toNat_of_nonneg h.1] at h2
theorem mul_bd {x y A B : Int} (h1 : 0 ≤ x) (h2 : x ≤ A) (h3 : 0 ≤ y) (h4 : y ≤ B) : 0 ≤ x * y ∧ x * y ≤ A * B :=
  ⟨Int.mul_nonneg h1 h3, Int.mul_le_mul h2 h4 h3 (by omega)⟩
theorem md97 (x : Int) : 0 ≤ x % 97 ∧ x % 97 ≤ 96 := by omega
theorem m97_mul {a b c d : Int} (h1 : a % 97 = b % 97) (h2 : c % 97 = d % 97) : (a * c) % 97 = (b * d) % 97 := by
  rw [Int.mul_emod, h1, h2, ← Int.mul_emod]
theorem m97_pow {a b : Int} (h : a % 97 = b % 97) : ∀ n : Nat, a ^ n % 97 = b ^ n % 97
  | 0 => by rw [Int.pow_zero, Int.pow_zero]
  | n + 1 => by rw [Int.pow_succ, Int.pow_succ]; exact m97_mul (m97_pow h n) h
theorem m97_id (a : Int) : (a % 97) % 97 = a % 97 := Int.emod_emod_of_dvd _ (Int.dvd_refl _)
def pw (v : Int) (n : Nat) : Int := v ^ n % 97
theorem pw_bd (v : Int) (n : Nat) : 0 ≤ pw v n ∧ pw v n ≤ 96 := md97 _
def inv97 (v : Int) : Int := pw v 95
theorem inv_bd (v : Int) : 0 ≤ inv97 v ∧ inv97 v ≤ 96 := md97 _
def c97 (x : Int) : Prop := 0 ≤ x ∧ x ≤ 96
def r97 (n : Int) (f : Row) : Prop := ∀ i, 0 ≤ i → i < n → 0 ≤ f i ∧ f i ≤ 96
-- methods of java.lang.Math: plain by the method
theorem Met.ofWF {l : Launch} {y : MethodName} {ws ws' : List Cond} {rm : Room} {Pc : Array Value → State → Prop} {Qc : Array Value → State → Outcome → State → Prop} {mc ms : Nat} {free : Addr → Prop} {cc : ByteArray} {maxL : Nat} {ret : Option FieldType}
    (hy : plainFor y = true) (hw : ws = Cond.code y cc maxL ret :: ws')
    (body : ∀ p e s m args below meth c s₁, BodyLoose p l y (headSpec ws rm) cc maxL ret e s m args below meth c s₁ → c.maxLocals = maxL → Pc args s →
      W p l e (headSpec ws rm).room s m args below meth c s.heap [] 0 0 (MQ below Qc args s mc ms free) (entryFrame m args maxL)) : Met l y ws rm Pc Qc mc ms free := by
  refine MetFree.of_bodySF (code := cc) (maxLocals := maxL) (ret := ret) hy ?_ ?_
  · intro args s m h hn
    obtain ⟨meth, c, h1, h2, h3, h4, h5, h6, -, -⟩ := Cond.code_spec hn (atoms_spec (ws := ws) h _ (by rw [hw]; exact List.mem_cons_self))
    exact ⟨meth, c, h1, h2, h3, h4, h5, h6⟩
  · intro p e s m args below meth c s₁ B hml hP _
    have hh0 : s₁.heap = s.heap := by rw [B.state]; rfl
    obtain ⟨t, a1, o, b1, b2, b3⟩ := body p e s m args below meth c s₁ B hml hP s₁ hh0 (Stand.of_body B)
    exact ⟨t, o, a1, b1, b2, ⟨b3.1, b3.2⟩⟩
theorem CI_ofF {md : MD} {av : List AV} {σ : St} {P : Int → St → Prop} (hy : plainFor (mdY md) = true) (hn : av.length ≤ mdN md) (hown : mdO md = (mdY md).cls) (h : ∀ X, RI X P → G md X 0 (arL 0 av) [] σ) : CI md av σ P := by
  intro l D cA ad
  refine Met.ofWF (cc := mdC md) (maxL := mdN md) (ret := mdR md) hy rfl ?_
  intro p e s m args below meth c s₁ B hml hv
  obtain ⟨rfl, hP, hK⟩ := hv
  have hl := lv_entry (av.map (cv ad)) (n := mdN md) (by rw [arL_len]; exact hn)
  rw [lg_entry_eq]
  rw [arL_args] at hl
  exact h ((l, p, e, (headSpec (wsM md) (rmM md)).room, s, m, _, below, meth, c), (D, cA, ad, AD ad), (0, 0, MQ below (QI P D cA ad) _ s 0 0 (AD ad))) ⟨rfl, rfl, rfl, rfl⟩ (fx_start (av := av) hown B hml hK) s.heap [] _ hP va_S.rf hl
