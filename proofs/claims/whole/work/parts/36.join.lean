-- the world behind a call, cell by cell
theorem va_P_nil {D : va_G} {cl : List vw_C} {H : Heap} : va_P D cl [] H := fun k q h => by simp at h
theorem va_P_cons {D : va_G} {cl : List vw_C} {H : Heap} {q : Nat × va_E} {ws : va_W} (h : va_at D cl q H) (t : va_P D cl ws H) : va_P D cl (q :: ws) H := by
  intro k x hx
  cases k with
  | zero =>
    have e : q = x := Option.some.inj hx
    rw [← e]; exact h
  | succ k => exact t k x hx
theorem fw_old {A : Nat → Prop} {D : va_G} {cl : List vw_C} {ws wc : va_W} {H H1 : Heap} (hP : va_P D cl ws H) (hD : va_D A ws) {is : List Nat} (hC : is.map (fun i => ws[i]?) = wc.map some) (hk : ∀ q : Nat, q < H.size → ¬ va_A wc H.size q → H1[q]? = H[q]?) (k : Nat) {q : Nat × va_E} (hq : ws[k]? = some q) (hn : k ∉ is) : va_at D cl q H1 := by
  have hl := (hP k q hq).lt
  refine (hP k q hq).kept (hk q.1 hl ?_)
  rintro (⟨j, e, h⟩ | h)
  · have h3 : (is.map (fun i => ws[i]?))[j]? = some (some (q.1, e)) := by rw [hC, List.getElem?_map, h]; rfl
    rw [List.getElem?_map] at h3
    cases hi : is[j]? with
    | none => rw [hi] at h3; cases h3
    | some i =>
      rw [hi] at h3
      have h4 := hD.1 k i q (q.1, e) hq (Option.some.inj h3) rfl
      subst h4
      exact hn (List.mem_of_getElem? hi)
  · omega
theorem fw_Dsame {A : Nat → Prop} {ws w2 : va_W} (h : w2.map Prod.fst = ws.map Prod.fst) (hD : va_D A ws) : va_D A w2 := by
  have key : ∀ (k : Nat) (q : Nat × va_E), w2[k]? = some q → ∃ x : Nat × va_E, ws[k]? = some x ∧ x.1 = q.1 := by
    intro k q hq
    have h1 : (w2.map Prod.fst)[k]? = some q.1 := by rw [List.getElem?_map, hq]; rfl
    rw [h, List.getElem?_map] at h1
    cases hx : ws[k]? with
    | none => rw [hx] at h1; cases h1
    | some x => rw [hx] at h1; exact ⟨x, rfl, Option.some.inj h1⟩
  refine ⟨fun i j p q hp hq he => ?_, fun k q hq => ?_⟩
  · obtain ⟨x, hx, ex⟩ := key i p hp
    obtain ⟨y, hy, ey⟩ := key j q hq
    exact hD.1 i j x y hx hy (by rw [ex, ey, he])
  · obtain ⟨x, hx, ex⟩ := key k q hq
    rw [← ex]
    exact hD.2 k x hx
