/-! the start: the whole world (made by wip/whole/gen6.py) -/
theorem arrV_cg {cA : ClassId} {n : Nat} {f g : Nat → Value} (e : ∀ j, j < n → f j = g j) : arrV cA n f = arrV cA n g := by
  unfold arrV
  congr 1
  apply Array.ext
  · simp
  · intro i h1 h2
    simp at h1 h2
    simp [e i h1]
theorem at_q {D : va_G} {cl : List vw_C} {a n : Nat} {cA : ClassId} {f g : Nat → Option Nat} {H : Heap} (h : va_at D cl (a, .inl (cA, n, .inr (.inr (.inr (.inr f))))) H) (e : ∀ j, j < n → f j = g j) : va_at D cl (a, .inl (cA, n, .inr (.inr (.inr (.inr g))))) H := by
  show H[a]? = some (arrV cA n (fun j => va_rf (g j)))
  rw [← arrV_cg (f := fun j => va_rf (f j)) (fun j hj => by rw [e j hj])]
  exact h
theorem at_i {D : va_G} {cl : List vw_C} {a n : Nat} {cA : ClassId} {f g : Nat → Int32} {H : Heap} (h : va_at D cl (a, .inl (cA, n, .inl f)) H) (e : ∀ j, j < n → f j = g j) : va_at D cl (a, .inl (cA, n, .inl g)) H := by
  show H[a]? = some (arrV cA n (fun j => .int (g j)))
  rw [← arrV_cg (f := fun j => .int (f j)) (fun j hj => by rw [e j hj])]
  exact h
theorem now88 (j : Nat) : upd (fun _ => 0) 32 (Int32.ofInt 4369) j = Int32.ofInt (if (j : Int) = 32 then 4369 else 0) := by
  show (if j = 32 then Int32.ofInt 4369 else 0) = Int32.ofInt (if (j : Int) = 32 then 4369 else 0)
  by_cases c : j = 32
  · rw [if_pos c, if_pos (by omega)]
  · rw [if_neg c, if_neg (by omega)]; rfl
def wAll (cA : Nat → ClassId) (ad : Nat → Nat) : va_W := wX10 cA (ad 60) ad ++ wX11 cA (ad 87) ad
set_option maxRecDepth 100000 in
theorem wl_make {D : va_G} {cA : Nat → ClassId} {ad : Nat → Nat} {H : Heap} (hP : va_P D vwCl (wAll cA ad) H) : va_P D vwCl (WL ad cA σZ) H := by
  have key : ∀ o ∈ [0, 1, 2, 3, 4, 5, 6, 7, 8, 9, 10, 11, 12, 13, 14, 15, 16, 17, 18, 19, 20, 21, 22, 23, 24, 25, 26, 27, 28, 29, 30, 31, 32, 33, 34, 35, 36, 37, 38, 39, 40, 41, 42, 43, 44, 45, 46, 47, 48, 49, 50, 51, 52, 53, 54, 55, 56, 57, 58, 59, 60, 61, 62, 63, 64, 65, 66, 67, 68, 69, 70, 71, 72, 73, 74, 75, 76, 77, 78, 79, 80, 81, 82, 83, 84, 85, 86, 87, 88, 89, 90, 91, 92, 93, 94, 95, 96, 97, 98, 99, 100, 101, 102, 103, 104], va_at D vwCl (ad o, ent ad cA (shp o) (σZ o)) H := by
    refine List.forall_mem_cons.mpr ⟨hP 1 _ rfl, ?_⟩
    refine List.forall_mem_cons.mpr ⟨hP 2 _ rfl, ?_⟩
    refine List.forall_mem_cons.mpr ⟨hP 3 _ rfl, ?_⟩
    refine List.forall_mem_cons.mpr ⟨hP 4 _ rfl, ?_⟩
    refine List.forall_mem_cons.mpr ⟨hP 5 _ rfl, ?_⟩
    refine List.forall_mem_cons.mpr ⟨hP 6 _ rfl, ?_⟩
    refine List.forall_mem_cons.mpr ⟨hP 7 _ rfl, ?_⟩
    refine List.forall_mem_cons.mpr ⟨hP 8 _ rfl, ?_⟩
    refine List.forall_mem_cons.mpr ⟨hP 9 _ rfl, ?_⟩
    refine List.forall_mem_cons.mpr ⟨hP 10 _ rfl, ?_⟩
    refine List.forall_mem_cons.mpr ⟨hP 11 _ rfl, ?_⟩
    refine List.forall_mem_cons.mpr ⟨hP 12 _ rfl, ?_⟩
    refine List.forall_mem_cons.mpr ⟨hP 75 _ rfl, ?_⟩
    refine List.forall_mem_cons.mpr ⟨hP 76 _ rfl, ?_⟩
    refine List.forall_mem_cons.mpr ⟨hP 77 _ rfl, ?_⟩
    refine List.forall_mem_cons.mpr ⟨hP 78 _ rfl, ?_⟩
    refine List.forall_mem_cons.mpr ⟨hP 79 _ rfl, ?_⟩
    refine List.forall_mem_cons.mpr ⟨hP 80 _ rfl, ?_⟩
    refine List.forall_mem_cons.mpr ⟨hP 81 _ rfl, ?_⟩
    refine List.forall_mem_cons.mpr ⟨hP 82 _ rfl, ?_⟩
    refine List.forall_mem_cons.mpr ⟨hP 83 _ rfl, ?_⟩
    refine List.forall_mem_cons.mpr ⟨hP 84 _ rfl, ?_⟩
    refine List.forall_mem_cons.mpr ⟨hP 85 _ rfl, ?_⟩
    refine List.forall_mem_cons.mpr ⟨hP 86 _ rfl, ?_⟩
    refine List.forall_mem_cons.mpr ⟨hP 17 _ rfl, ?_⟩
    refine List.forall_mem_cons.mpr ⟨hP 18 _ rfl, ?_⟩
    refine List.forall_mem_cons.mpr ⟨hP 19 _ rfl, ?_⟩
    refine List.forall_mem_cons.mpr ⟨hP 20 _ rfl, ?_⟩
    refine List.forall_mem_cons.mpr ⟨hP 21 _ rfl, ?_⟩
    refine List.forall_mem_cons.mpr ⟨hP 22 _ rfl, ?_⟩
    refine List.forall_mem_cons.mpr ⟨hP 23 _ rfl, ?_⟩
    refine List.forall_mem_cons.mpr ⟨hP 24 _ rfl, ?_⟩
    refine List.forall_mem_cons.mpr ⟨hP 25 _ rfl, ?_⟩
    refine List.forall_mem_cons.mpr ⟨hP 26 _ rfl, ?_⟩
    refine List.forall_mem_cons.mpr ⟨hP 27 _ rfl, ?_⟩
    refine List.forall_mem_cons.mpr ⟨hP 28 _ rfl, ?_⟩
    refine List.forall_mem_cons.mpr ⟨hP 29 _ rfl, ?_⟩
    refine List.forall_mem_cons.mpr ⟨hP 30 _ rfl, ?_⟩
    refine List.forall_mem_cons.mpr ⟨hP 31 _ rfl, ?_⟩
    refine List.forall_mem_cons.mpr ⟨hP 32 _ rfl, ?_⟩
    refine List.forall_mem_cons.mpr ⟨hP 33 _ rfl, ?_⟩
    refine List.forall_mem_cons.mpr ⟨hP 34 _ rfl, ?_⟩
    refine List.forall_mem_cons.mpr ⟨hP 35 _ rfl, ?_⟩
    refine List.forall_mem_cons.mpr ⟨hP 36 _ rfl, ?_⟩
    refine List.forall_mem_cons.mpr ⟨hP 37 _ rfl, ?_⟩
    refine List.forall_mem_cons.mpr ⟨hP 38 _ rfl, ?_⟩
    refine List.forall_mem_cons.mpr ⟨hP 39 _ rfl, ?_⟩
    refine List.forall_mem_cons.mpr ⟨hP 40 _ rfl, ?_⟩
    refine List.forall_mem_cons.mpr ⟨hP 41 _ rfl, ?_⟩
    refine List.forall_mem_cons.mpr ⟨hP 42 _ rfl, ?_⟩
    refine List.forall_mem_cons.mpr ⟨hP 43 _ rfl, ?_⟩
    refine List.forall_mem_cons.mpr ⟨hP 44 _ rfl, ?_⟩
    refine List.forall_mem_cons.mpr ⟨hP 45 _ rfl, ?_⟩
    refine List.forall_mem_cons.mpr ⟨hP 46 _ rfl, ?_⟩
    refine List.forall_mem_cons.mpr ⟨hP 47 _ rfl, ?_⟩
    refine List.forall_mem_cons.mpr ⟨hP 48 _ rfl, ?_⟩
    refine List.forall_mem_cons.mpr ⟨hP 49 _ rfl, ?_⟩
    refine List.forall_mem_cons.mpr ⟨hP 50 _ rfl, ?_⟩
    refine List.forall_mem_cons.mpr ⟨hP 51 _ rfl, ?_⟩
    refine List.forall_mem_cons.mpr ⟨hP 52 _ rfl, ?_⟩
    refine List.forall_mem_cons.mpr ⟨hP 0 _ rfl, ?_⟩
    refine List.forall_mem_cons.mpr ⟨at_q (hP 13 _ rfl) (fun j hj => by have hj : j < 2 := hj; rcases (show j = 0 ∨ j = 1 by omega) with rfl | rfl <;> rfl), ?_⟩
    refine List.forall_mem_cons.mpr ⟨hP 14 _ rfl, ?_⟩
    refine List.forall_mem_cons.mpr ⟨hP 15 _ rfl, ?_⟩
    refine List.forall_mem_cons.mpr ⟨at_q (hP 16 _ rfl) (fun j hj => by have hj : j < 6 := hj; rcases (show j = 0 ∨ j = 1 ∨ j = 2 ∨ j = 3 ∨ j = 4 ∨ j = 5 by omega) with rfl | rfl | rfl | rfl | rfl | rfl <;> rfl), ?_⟩
    refine List.forall_mem_cons.mpr ⟨hP 53 _ rfl, ?_⟩
    refine List.forall_mem_cons.mpr ⟨hP 54 _ rfl, ?_⟩
    refine List.forall_mem_cons.mpr ⟨hP 55 _ rfl, ?_⟩
    refine List.forall_mem_cons.mpr ⟨hP 56 _ rfl, ?_⟩
    refine List.forall_mem_cons.mpr ⟨hP 57 _ rfl, ?_⟩
    refine List.forall_mem_cons.mpr ⟨hP 58 _ rfl, ?_⟩
    refine List.forall_mem_cons.mpr ⟨hP 59 _ rfl, ?_⟩
    refine List.forall_mem_cons.mpr ⟨hP 60 _ rfl, ?_⟩
    refine List.forall_mem_cons.mpr ⟨hP 61 _ rfl, ?_⟩
    refine List.forall_mem_cons.mpr ⟨hP 62 _ rfl, ?_⟩
    refine List.forall_mem_cons.mpr ⟨hP 63 _ rfl, ?_⟩
    refine List.forall_mem_cons.mpr ⟨hP 64 _ rfl, ?_⟩
    refine List.forall_mem_cons.mpr ⟨hP 65 _ rfl, ?_⟩
    refine List.forall_mem_cons.mpr ⟨hP 66 _ rfl, ?_⟩
    refine List.forall_mem_cons.mpr ⟨hP 67 _ rfl, ?_⟩
    refine List.forall_mem_cons.mpr ⟨hP 68 _ rfl, ?_⟩
    refine List.forall_mem_cons.mpr ⟨hP 69 _ rfl, ?_⟩
    refine List.forall_mem_cons.mpr ⟨hP 70 _ rfl, ?_⟩
    refine List.forall_mem_cons.mpr ⟨hP 71 _ rfl, ?_⟩
    refine List.forall_mem_cons.mpr ⟨hP 72 _ rfl, ?_⟩
    refine List.forall_mem_cons.mpr ⟨hP 73 _ rfl, ?_⟩
    refine List.forall_mem_cons.mpr ⟨hP 74 _ rfl, ?_⟩
    refine List.forall_mem_cons.mpr ⟨hP 87 _ rfl, ?_⟩
    refine List.forall_mem_cons.mpr ⟨at_i (hP 88 _ rfl) (fun j _ => now88 j), ?_⟩
    refine List.forall_mem_cons.mpr ⟨hP 89 _ rfl, ?_⟩
    refine List.forall_mem_cons.mpr ⟨hP 90 _ rfl, ?_⟩
    refine List.forall_mem_cons.mpr ⟨hP 91 _ rfl, ?_⟩
    refine List.forall_mem_cons.mpr ⟨hP 92 _ rfl, ?_⟩
    refine List.forall_mem_cons.mpr ⟨hP 93 _ rfl, ?_⟩
    refine List.forall_mem_cons.mpr ⟨hP 94 _ rfl, ?_⟩
    refine List.forall_mem_cons.mpr ⟨hP 95 _ rfl, ?_⟩
    refine List.forall_mem_cons.mpr ⟨hP 96 _ rfl, ?_⟩
    refine List.forall_mem_cons.mpr ⟨hP 97 _ rfl, ?_⟩
    refine List.forall_mem_cons.mpr ⟨hP 98 _ rfl, ?_⟩
    refine List.forall_mem_cons.mpr ⟨hP 99 _ rfl, ?_⟩
    refine List.forall_mem_cons.mpr ⟨hP 100 _ rfl, ?_⟩
    refine List.forall_mem_cons.mpr ⟨hP 101 _ rfl, ?_⟩
    refine List.forall_mem_cons.mpr ⟨hP 102 _ rfl, ?_⟩
    refine List.forall_mem_cons.mpr ⟨hP 103 _ rfl, ?_⟩
    refine List.forall_mem_cons.mpr ⟨hP 104 _ rfl, ?_⟩
    exact fun _ h => absurd h List.not_mem_nil
  intro k q hk
  have hl : k < 105 := by
    have := (List.getElem?_eq_some_iff.mp hk).1
    simpa [WL] using this
  rw [wl_at hl] at hk
  obtain rfl := Option.some.inj hk
  exact key k (show k ∈ List.range 105 from List.mem_range.mpr hl)
set_option maxRecDepth 100000 in
theorem wl_ids {A : Nat → Prop} {cA : Nat → ClassId} {ad : Nat → Nat} (hD : va_D A (wAll cA ad)) : (∀ i j, i < 105 → j < 105 → ad i = ad j → i = j) ∧ ∀ i, i < 105 → A (ad i) := by
  have at' : ∀ o, o < 105 → ∃ e, (wAll cA ad)[([1, 2, 3, 4, 5, 6, 7, 8, 9, 10, 11, 12, 75, 76, 77, 78, 79, 80, 81, 82, 83, 84, 85, 86, 17, 18, 19, 20, 21, 22, 23, 24, 25, 26, 27, 28, 29, 30, 31, 32, 33, 34, 35, 36, 37, 38, 39, 40, 41, 42, 43, 44, 45, 46, 47, 48, 49, 50, 51, 52, 0, 13, 14, 15, 16, 53, 54, 55, 56, 57, 58, 59, 60, 61, 62, 63, 64, 65, 66, 67, 68, 69, 70, 71, 72, 73, 74, 87, 88, 89, 90, 91, 92, 93, 94, 95, 96, 97, 98, 99, 100, 101, 102, 103, 104] : List Nat).getD o 0]? = some (ad o, e) := by
    have key : ∀ o ∈ [0, 1, 2, 3, 4, 5, 6, 7, 8, 9, 10, 11, 12, 13, 14, 15, 16, 17, 18, 19, 20, 21, 22, 23, 24, 25, 26, 27, 28, 29, 30, 31, 32, 33, 34, 35, 36, 37, 38, 39, 40, 41, 42, 43, 44, 45, 46, 47, 48, 49, 50, 51, 52, 53, 54, 55, 56, 57, 58, 59, 60, 61, 62, 63, 64, 65, 66, 67, 68, 69, 70, 71, 72, 73, 74, 75, 76, 77, 78, 79, 80, 81, 82, 83, 84, 85, 86, 87, 88, 89, 90, 91, 92, 93, 94, 95, 96, 97, 98, 99, 100, 101, 102, 103, 104], ∃ e, (wAll cA ad)[([1, 2, 3, 4, 5, 6, 7, 8, 9, 10, 11, 12, 75, 76, 77, 78, 79, 80, 81, 82, 83, 84, 85, 86, 17, 18, 19, 20, 21, 22, 23, 24, 25, 26, 27, 28, 29, 30, 31, 32, 33, 34, 35, 36, 37, 38, 39, 40, 41, 42, 43, 44, 45, 46, 47, 48, 49, 50, 51, 52, 0, 13, 14, 15, 16, 53, 54, 55, 56, 57, 58, 59, 60, 61, 62, 63, 64, 65, 66, 67, 68, 69, 70, 71, 72, 73, 74, 87, 88, 89, 90, 91, 92, 93, 94, 95, 96, 97, 98, 99, 100, 101, 102, 103, 104] : List Nat).getD o 0]? = some (ad o, e) := by
      refine List.forall_mem_cons.mpr ⟨⟨_, rfl⟩, ?_⟩
      refine List.forall_mem_cons.mpr ⟨⟨_, rfl⟩, ?_⟩
      refine List.forall_mem_cons.mpr ⟨⟨_, rfl⟩, ?_⟩
      refine List.forall_mem_cons.mpr ⟨⟨_, rfl⟩, ?_⟩
      refine List.forall_mem_cons.mpr ⟨⟨_, rfl⟩, ?_⟩
      refine List.forall_mem_cons.mpr ⟨⟨_, rfl⟩, ?_⟩
      refine List.forall_mem_cons.mpr ⟨⟨_, rfl⟩, ?_⟩
      refine List.forall_mem_cons.mpr ⟨⟨_, rfl⟩, ?_⟩
      refine List.forall_mem_cons.mpr ⟨⟨_, rfl⟩, ?_⟩
      refine List.forall_mem_cons.mpr ⟨⟨_, rfl⟩, ?_⟩
      refine List.forall_mem_cons.mpr ⟨⟨_, rfl⟩, ?_⟩
      refine List.forall_mem_cons.mpr ⟨⟨_, rfl⟩, ?_⟩
      refine List.forall_mem_cons.mpr ⟨⟨_, rfl⟩, ?_⟩
      refine List.forall_mem_cons.mpr ⟨⟨_, rfl⟩, ?_⟩
      refine List.forall_mem_cons.mpr ⟨⟨_, rfl⟩, ?_⟩
      refine List.forall_mem_cons.mpr ⟨⟨_, rfl⟩, ?_⟩
      refine List.forall_mem_cons.mpr ⟨⟨_, rfl⟩, ?_⟩
      refine List.forall_mem_cons.mpr ⟨⟨_, rfl⟩, ?_⟩
      refine List.forall_mem_cons.mpr ⟨⟨_, rfl⟩, ?_⟩
      refine List.forall_mem_cons.mpr ⟨⟨_, rfl⟩, ?_⟩
      refine List.forall_mem_cons.mpr ⟨⟨_, rfl⟩, ?_⟩
      refine List.forall_mem_cons.mpr ⟨⟨_, rfl⟩, ?_⟩
      refine List.forall_mem_cons.mpr ⟨⟨_, rfl⟩, ?_⟩
      refine List.forall_mem_cons.mpr ⟨⟨_, rfl⟩, ?_⟩
      refine List.forall_mem_cons.mpr ⟨⟨_, rfl⟩, ?_⟩
      refine List.forall_mem_cons.mpr ⟨⟨_, rfl⟩, ?_⟩
      refine List.forall_mem_cons.mpr ⟨⟨_, rfl⟩, ?_⟩
      refine List.forall_mem_cons.mpr ⟨⟨_, rfl⟩, ?_⟩
      refine List.forall_mem_cons.mpr ⟨⟨_, rfl⟩, ?_⟩
      refine List.forall_mem_cons.mpr ⟨⟨_, rfl⟩, ?_⟩
      refine List.forall_mem_cons.mpr ⟨⟨_, rfl⟩, ?_⟩
      refine List.forall_mem_cons.mpr ⟨⟨_, rfl⟩, ?_⟩
      refine List.forall_mem_cons.mpr ⟨⟨_, rfl⟩, ?_⟩
      refine List.forall_mem_cons.mpr ⟨⟨_, rfl⟩, ?_⟩
      refine List.forall_mem_cons.mpr ⟨⟨_, rfl⟩, ?_⟩
      refine List.forall_mem_cons.mpr ⟨⟨_, rfl⟩, ?_⟩
      refine List.forall_mem_cons.mpr ⟨⟨_, rfl⟩, ?_⟩
      refine List.forall_mem_cons.mpr ⟨⟨_, rfl⟩, ?_⟩
      refine List.forall_mem_cons.mpr ⟨⟨_, rfl⟩, ?_⟩
      refine List.forall_mem_cons.mpr ⟨⟨_, rfl⟩, ?_⟩
      refine List.forall_mem_cons.mpr ⟨⟨_, rfl⟩, ?_⟩
      refine List.forall_mem_cons.mpr ⟨⟨_, rfl⟩, ?_⟩
      refine List.forall_mem_cons.mpr ⟨⟨_, rfl⟩, ?_⟩
      refine List.forall_mem_cons.mpr ⟨⟨_, rfl⟩, ?_⟩
      refine List.forall_mem_cons.mpr ⟨⟨_, rfl⟩, ?_⟩
      refine List.forall_mem_cons.mpr ⟨⟨_, rfl⟩, ?_⟩
      refine List.forall_mem_cons.mpr ⟨⟨_, rfl⟩, ?_⟩
      refine List.forall_mem_cons.mpr ⟨⟨_, rfl⟩, ?_⟩
      refine List.forall_mem_cons.mpr ⟨⟨_, rfl⟩, ?_⟩
      refine List.forall_mem_cons.mpr ⟨⟨_, rfl⟩, ?_⟩
      refine List.forall_mem_cons.mpr ⟨⟨_, rfl⟩, ?_⟩
      refine List.forall_mem_cons.mpr ⟨⟨_, rfl⟩, ?_⟩
      refine List.forall_mem_cons.mpr ⟨⟨_, rfl⟩, ?_⟩
      refine List.forall_mem_cons.mpr ⟨⟨_, rfl⟩, ?_⟩
      refine List.forall_mem_cons.mpr ⟨⟨_, rfl⟩, ?_⟩
      refine List.forall_mem_cons.mpr ⟨⟨_, rfl⟩, ?_⟩
      refine List.forall_mem_cons.mpr ⟨⟨_, rfl⟩, ?_⟩
      refine List.forall_mem_cons.mpr ⟨⟨_, rfl⟩, ?_⟩
      refine List.forall_mem_cons.mpr ⟨⟨_, rfl⟩, ?_⟩
      refine List.forall_mem_cons.mpr ⟨⟨_, rfl⟩, ?_⟩
      refine List.forall_mem_cons.mpr ⟨⟨_, rfl⟩, ?_⟩
      refine List.forall_mem_cons.mpr ⟨⟨_, rfl⟩, ?_⟩
      refine List.forall_mem_cons.mpr ⟨⟨_, rfl⟩, ?_⟩
      refine List.forall_mem_cons.mpr ⟨⟨_, rfl⟩, ?_⟩
      refine List.forall_mem_cons.mpr ⟨⟨_, rfl⟩, ?_⟩
      refine List.forall_mem_cons.mpr ⟨⟨_, rfl⟩, ?_⟩
      refine List.forall_mem_cons.mpr ⟨⟨_, rfl⟩, ?_⟩
      refine List.forall_mem_cons.mpr ⟨⟨_, rfl⟩, ?_⟩
      refine List.forall_mem_cons.mpr ⟨⟨_, rfl⟩, ?_⟩
      refine List.forall_mem_cons.mpr ⟨⟨_, rfl⟩, ?_⟩
      refine List.forall_mem_cons.mpr ⟨⟨_, rfl⟩, ?_⟩
      refine List.forall_mem_cons.mpr ⟨⟨_, rfl⟩, ?_⟩
      refine List.forall_mem_cons.mpr ⟨⟨_, rfl⟩, ?_⟩
      refine List.forall_mem_cons.mpr ⟨⟨_, rfl⟩, ?_⟩
      refine List.forall_mem_cons.mpr ⟨⟨_, rfl⟩, ?_⟩
      refine List.forall_mem_cons.mpr ⟨⟨_, rfl⟩, ?_⟩
      refine List.forall_mem_cons.mpr ⟨⟨_, rfl⟩, ?_⟩
      refine List.forall_mem_cons.mpr ⟨⟨_, rfl⟩, ?_⟩
      refine List.forall_mem_cons.mpr ⟨⟨_, rfl⟩, ?_⟩
      refine List.forall_mem_cons.mpr ⟨⟨_, rfl⟩, ?_⟩
      refine List.forall_mem_cons.mpr ⟨⟨_, rfl⟩, ?_⟩
      refine List.forall_mem_cons.mpr ⟨⟨_, rfl⟩, ?_⟩
      refine List.forall_mem_cons.mpr ⟨⟨_, rfl⟩, ?_⟩
      refine List.forall_mem_cons.mpr ⟨⟨_, rfl⟩, ?_⟩
      refine List.forall_mem_cons.mpr ⟨⟨_, rfl⟩, ?_⟩
      refine List.forall_mem_cons.mpr ⟨⟨_, rfl⟩, ?_⟩
      refine List.forall_mem_cons.mpr ⟨⟨_, rfl⟩, ?_⟩
      refine List.forall_mem_cons.mpr ⟨⟨_, rfl⟩, ?_⟩
      refine List.forall_mem_cons.mpr ⟨⟨_, rfl⟩, ?_⟩
      refine List.forall_mem_cons.mpr ⟨⟨_, rfl⟩, ?_⟩
      refine List.forall_mem_cons.mpr ⟨⟨_, rfl⟩, ?_⟩
      refine List.forall_mem_cons.mpr ⟨⟨_, rfl⟩, ?_⟩
      refine List.forall_mem_cons.mpr ⟨⟨_, rfl⟩, ?_⟩
      refine List.forall_mem_cons.mpr ⟨⟨_, rfl⟩, ?_⟩
      refine List.forall_mem_cons.mpr ⟨⟨_, rfl⟩, ?_⟩
      refine List.forall_mem_cons.mpr ⟨⟨_, rfl⟩, ?_⟩
      refine List.forall_mem_cons.mpr ⟨⟨_, rfl⟩, ?_⟩
      refine List.forall_mem_cons.mpr ⟨⟨_, rfl⟩, ?_⟩
      refine List.forall_mem_cons.mpr ⟨⟨_, rfl⟩, ?_⟩
      refine List.forall_mem_cons.mpr ⟨⟨_, rfl⟩, ?_⟩
      refine List.forall_mem_cons.mpr ⟨⟨_, rfl⟩, ?_⟩
      refine List.forall_mem_cons.mpr ⟨⟨_, rfl⟩, ?_⟩
      refine List.forall_mem_cons.mpr ⟨⟨_, rfl⟩, ?_⟩
      refine List.forall_mem_cons.mpr ⟨⟨_, rfl⟩, ?_⟩
      refine List.forall_mem_cons.mpr ⟨⟨_, rfl⟩, ?_⟩
      exact fun _ h => absurd h List.not_mem_nil
    exact fun o ho => key o (show o ∈ List.range 105 from List.mem_range.mpr ho)
  have inj : ∀ i, i < 105 → ∀ j, j < 105 → ([1, 2, 3, 4, 5, 6, 7, 8, 9, 10, 11, 12, 75, 76, 77, 78, 79, 80, 81, 82, 83, 84, 85, 86, 17, 18, 19, 20, 21, 22, 23, 24, 25, 26, 27, 28, 29, 30, 31, 32, 33, 34, 35, 36, 37, 38, 39, 40, 41, 42, 43, 44, 45, 46, 47, 48, 49, 50, 51, 52, 0, 13, 14, 15, 16, 53, 54, 55, 56, 57, 58, 59, 60, 61, 62, 63, 64, 65, 66, 67, 68, 69, 70, 71, 72, 73, 74, 87, 88, 89, 90, 91, 92, 93, 94, 95, 96, 97, 98, 99, 100, 101, 102, 103, 104] : List Nat).getD i 0 = ([1, 2, 3, 4, 5, 6, 7, 8, 9, 10, 11, 12, 75, 76, 77, 78, 79, 80, 81, 82, 83, 84, 85, 86, 17, 18, 19, 20, 21, 22, 23, 24, 25, 26, 27, 28, 29, 30, 31, 32, 33, 34, 35, 36, 37, 38, 39, 40, 41, 42, 43, 44, 45, 46, 47, 48, 49, 50, 51, 52, 0, 13, 14, 15, 16, 53, 54, 55, 56, 57, 58, 59, 60, 61, 62, 63, 64, 65, 66, 67, 68, 69, 70, 71, 72, 73, 74, 87, 88, 89, 90, 91, 92, 93, 94, 95, 96, 97, 98, 99, 100, 101, 102, 103, 104] : List Nat).getD j 0 → i = j := by
    decide +kernel
  refine ⟨fun i j hi hj e => ?_, fun i hi => ?_⟩
  · obtain ⟨e1, h1⟩ := at' i hi
    obtain ⟨e2, h2⟩ := at' j hj
    exact inj i hi j hj (hD.1 _ _ _ _ h1 h2 e)
  · obtain ⟨e1, h1⟩ := at' i hi
    exact hD.2 _ _ h1
