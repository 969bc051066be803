section L3H
variable {h g g' y : AH}
/-- h' is h but for the class's scratch: the trial, the stair, the right row -/
def AgC (h h' : AH) : Prop := (∀ a c : Nat, ¬ (12 ≤ a ∧ a ≤ 22) → ¬ (34 ≤ a ∧ a ≤ 41) → a ≠ 65 → h' a c = h a c) ∧ CL h'
theorem AgC.refl (hc : CL h) : AgC h h := ⟨fun _ _ _ _ _ => rfl, hc⟩
theorem AgC.trans {h1 h2 h3 : AH} (p : AgC h1 h2) (q : AgC h2 h3) : AgC h1 h3 := ⟨fun a c z1 z2 z3 => by rw [q.1 a c z1 z2 z3, p.1 a c z1 z2 z3], q.2⟩
theorem BB_ag {h' : AH} (hb : BB h g) (q : AgC h h') : BB h' g := by
  obtain ⟨⟨a1, a2, a3⟩, a4, r7, rh, mg⟩ := hb
  have o : ∀ a c, a < 12 → h' a c = h a c := fun a c z => q.1 a c (by omega) (by omega) (by omega)
  refine ⟨⟨by rw [o _ _ (by omega)]; exact a1, by rw [o _ _ (by omega)]; exact a2, by rw [o _ _ (by omega)]; exact a3⟩, by rw [o _ _ (by omega)]; exact a4, fun c hc => ?_, fun c hc => ?_, mg⟩
  · rw [o _ _ (by omega), o _ _ (by omega), o _ _ (by omega), o _ _ (by omega), o _ _ (by omega), o _ _ (by omega), o _ _ (by omega)]
    exact r7 c hc
  · rw [o _ _ (by omega), o _ _ (by omega), o _ _ (by omega)]
    exact rh c hc
theorem SG_P (hs : SG y g) : 0 ≤ g 82 5 ∧ g 82 5 ≤ 8 := hs.2.2.2.2.1.1
theorem SG_M (hs : SG y g) : 0 ≤ g 88 41 ∧ g 88 41 ≤ 120 := hs.2.2.2.2.1.2.2.2.1
theorem go5 (hs : SG y g) (k : Nat) : goMo 41 k g 82 5 = g 82 5 := goMo_o _ _ (by omega) k g (SG_P hs)
theorem SG_arrE (hs : SG y g) {ee : Int} (hm : g 88 41 ≤ ee) (he : ee ≤ 120) {p : Nat} (hp : (p : Int) < g 82 5) : tryX y 12 ee 19 p = orN (goMo 41 (ee - g 88 41).toNat g 88 (74 + p)) :=
  ((SG_try hs hm he).2.1 p (by rw [go5 hs]; exact hp)).1.2.2.2.2.2.2
theorem SG_floorE (hs : SG y g) {ee : Int} (hm : g 88 41 ≤ ee) (he : ee ≤ 120) {p : Nat} (hp : (p : Int) < g 82 5) : tryX y 12 ee 15 p = goMo 41 (ee - g 88 41).toNat g 88 (42 + p) :=
  ((SG_try hs hm he).2.1 p (by rw [go5 hs]; exact hp)).1.2.2.1
theorem SG_cntE (hs : SG y g) {ee : Int} (hm : g 88 41 ≤ ee) (he : ee ≤ 120) : tryX y 12 ee 12 0 = g 82 5 := by
  have := (SG_try hs hm he).1.1
  rw [go5 hs] at this; exact this
theorem SG_arr (hs : SG y g) {p : Nat} (hp : (p : Int) < g 82 5) : tryX y 12 120 19 p = orN (goMo 41 120 g 88 (74 + p)) :=
  ((SG_full hs).2.1 p (by rw [go5 hs]; exact hp)).1.2.2.2.2.2.2
theorem SG_start_v (hs : SG y g) {p : Nat} (hp : (p : Int) < g 82 5) : tryX y 12 120 17 p = g 88 (58 + p) := by
  have := ((SG_full hs).2.1 p (by rw [go5 hs]; exact hp)).1.2.2.2.2.1
  rw [goMo_o _ _ (by have := SG_P hs; omega) _ _ (SG_P hs)] at this
  exact this
theorem SG_wait (hs : SG y g) {p : Nat} (hp : (p : Int) < g 82 5) : tryX y 12 120 38 p = goMo 41 120 g 100 p :=
  ((SG_full hs).2.1 p (by rw [go5 hs]; exact hp)).2.2 trivial
theorem SG_crowd (hs : SG y g) {f : Nat} (hf : f < 9) : tryX y 12 120 41 f = goMo 41 120 g 99 f := (SG_full hs).2.2 trivial f hf
theorem SG_cnt (hs : SG y g) : tryX y 12 120 12 0 = g 82 5 := by
  have := (SG_full hs).1.1
  rw [go5 hs] at this; exact this
theorem SG_late (hs : SG y g) : lateX (tryX y 12 120) 12 = lastM (goMo 41 120 g) := late_eq (by rw [SG_cnt hs, go5 hs]) (by rw [go5 hs]; exact (SG_P hs).1) (fun c hc => by rw [go5 hs] at hc; exact SG_arr hs hc)
theorem SG_ag (hb : AgC h y) {ee : Int} (hs : SG y g) (he : ee ≤ 120) : AgC h (tryX y 12 ee) := ⟨fun a c z1 z2 z3 => by rw [tryX_o _ _ ⟨z1, z2⟩]; exact hb.1 a c z1 z2 z3, CL_tryX hs he⟩
theorem ag_bec (hc : CL h) : AgC h (becomeX h 12 1) := ⟨fun a c z1 z2 z3 => bec_o _ _ (by omega), ⟨fun j => by rw [bec_o _ _ (by omega)]; exact hc.1 j, fun j => by rw [bec_o _ _ (by omega)]; exact hc.2 j⟩⟩
theorem ag_send {pp : Nat} {gl s : Int} (q : AgC h y) : AgC h (sendX y 12 pp gl s) := by
  have o1 : ∀ a c, a ≠ 16 ∧ a ≠ 17 ∧ a ≠ 18 ∧ a ≠ 19 → sendX y 12 pp gl s a c = y a c := fun a c q => by unfold sendX; rw [hu_o (by omega), hu_o (by omega), hu_o (by omega), hu_o (by omega)]
  exact ⟨fun a c z1 z2 z3 => by rw [o1 _ _ (by omega)]; exact q.1 a c z1 z2 z3, ⟨fun j => by rw [o1 _ _ (by omega)]; exact q.2.1 j, fun j => by rw [o1 _ _ (by omega)]; exact q.2.2 j⟩⟩
theorem lend5 : lendM g 82 5 = g 82 5 := lend_o _ _ (by omega)
theorem lend41 : lendM g 88 41 = g 88 0 := lend_r 0 (by omega)
-- what one is asked, out of the model's runs
def whenF (g : AH) (p : Nat) : Int := if goMo 41 120 (lendM g) 88 (74 + p) < 0 then -3 else goMo 41 120 (lendM g) 88 (74 + p)
def lastF (g : AH) : Int := lastM (goMo 41 120 (lendM g))
def waitF (g : AH) (p : Nat) : Int := goMo 41 120 (lendM g) 100 p
def crowdF (g : AH) (f : Nat) : Int := goMo 41 120 (lendM g) 99 f
def onM (z : AH) (f : Int) : Nat → Int
  | 0 => 0
  | n + 1 => if z 88 (42 + n) = f then onM z f n + 1 else onM z f n
theorem onM_r {z : AH} {f : Int} : ∀ n : Nat, 0 ≤ onM z f n ∧ onM z f n ≤ n
  | 0 => by unfold onM; omega
  | n + 1 => by have := onM_r (z := z) (f := f) n; unfold onM; split <;> omega
def thereF (g : AH) (f mi : Int) : Int := onM (goMo 41 (mi + 1 - g 88 0).toNat (lendM g)) f (g 82 5).toNat
def drillG (g : AH) : Nat → AH
  | 0 => lendM g
  | n + 1 => hu (setsM (drillG g n) 41 n 0) 88 (41 + 17 + n) (g 88 0)
def drillY (h : AH) : Nat → AH
  | 0 => becomeX h 12 1
  | n + 1 => sendX (drillY h n) 12 n 0 (h 1 13)
def drillF (g : AH) : Int := if lastM (goMo 41 120 (drillG g (g 82 5).toNat)) < 0 then -3 else lastM (goMo 41 120 (drillG g (g 82 5).toNat)) - g 88 0 + 1
def rentG (g : AH) (f : Int) : Nat → AH
  | 0 => lendM g
  | n + 1 => setsM (rentG g f n) 41 n f
def rentY (h : AH) (f : Int) : Nat → AH
  | 0 => becomeX h 12 1
  | n + 1 => sendX (rentY h f n) 12 n f (h 6 n)
def rentS (z g : AH) : Nat → Int
  | 0 => 0
  | n + 1 => w32 (rentS z g n + if z 88 (74 + n) < 0 then 200 else w32 (z 88 (74 + n) - g 88 (17 + n)))
def rentF (g : AH) (f : Int) : Int := rentS (goMo 41 120 (rentG g f (g 82 5).toNat)) g (g 82 5).toNat
def allBy (z : AH) (by_ : Int) : Nat → Bool
  | 0 => true
  | n + 1 => allBy z by_ n && decide (0 ≤ z 88 (74 + n) ∧ z 88 (74 + n) ≤ by_)
def enoughP (g : AH) (by_ v : Int) : Bool := allBy (goMo 41 120 (hu (lendM g) 82 0 v)) by_ (g 82 5).toNat
def worstV (g : AH) (n f : Int) : Int := lastM (goMo 41 120 (addHatM (lendM g) f (g 88 0) n))
def swapG (g : AH) (p q : Nat) : AH := setsM (setsM (lendM g) 41 p (g 88 (9 + q))) 41 q (g 88 (9 + p))
def swapV (g : AH) (p q : Nat) : Int := lastM (goMo 41 120 (swapG g p q))
def earlyG (g : AH) (p : Nat) (s : Int) : AH := hu (setsM (lendM g) 41 p (g 88 (9 + p))) 88 (41 + 17 + p) s
def earlyV (g : AH) (p : Nat) (s : Int) : Int := goMo 41 120 (earlyG g p s) 88 (74 + p)
-- the class's trials and the model's, side by side
theorem BB_P (hb : BB h g) : 0 ≤ g 82 5 ∧ g 82 5 ≤ 8 := hb.2.2.2.2.1
theorem BB_M (hb : BB h g) : 0 ≤ g 88 0 ∧ g 88 0 ≤ 120 := hb.2.2.2.2.2.2.2.1
theorem BB_pg (hb : BB h g) {p : Nat} (hp : (p : Int) < g 82 5) : PG g 0 p := hb.2.2.2.2.2.2.2.2.1 p hp
theorem SG_drill (hb : BB h g) (hc : CL h) : ∀ n : Nat, (n : Int) ≤ g 82 5 → SG (drillY h n) (drillG g n) ∧ drillG g n 82 5 = g 82 5 ∧ drillG g n 88 41 = g 88 0 ∧ AgC h (drillY h n)
  | 0, _ => ⟨SG_start hb hc, lend5, lend41, ag_bec hc⟩
  | n + 1, hn => by
    obtain ⟨i1, i2, i3, i4⟩ := SG_drill hb hc n (by omega)
    have hm := BB_M hb
    have o2 : ∀ a c, (a ≠ 88 ∨ c < 41 + 9) → hu (setsM (drillG g n) 41 n 0) 88 (41 + 17 + n) (g 88 0) a c = drillG g n a c := fun a c q => by unfold setsM; rw [hu_o (by omega), hu_o (by omega), hu_o (by omega), hu_o (by omega)]
    refine ⟨?_, by show hu (setsM (drillG g n) 41 n 0) 88 (41 + 17 + n) (g 88 0) 82 5 = _; rw [o2 _ _ (by omega)]; exact i2, by show hu (setsM (drillG g n) 41 n 0) 88 (41 + 17 + n) (g 88 0) 88 41 = _; rw [o2 _ _ (by omega)]; exact i3, ag_send i4⟩
    show SG (sendX (drillY h n) 12 n 0 (h 1 13)) (hu (setsM (drillG g n) 41 n 0) 88 (41 + 17 + n) (g 88 0))
    rw [hb.2.1]
    exact SG_send i1 (by rw [i2]; omega) (by omega) hm
theorem setsM_o {aa pp : Nat} {gl : Int} (a c : Nat) (q : a ≠ 88 ∨ (c ≠ aa + 9 + pp ∧ c ≠ aa + 25 + pp ∧ c ≠ aa + 33 + pp)) : setsM g aa pp gl a c = g a c := by
  unfold setsM; rw [hu_o (by omega), hu_o (by omega), hu_o (by omega)]
theorem SG_rent {f : Int} (hb : BB h g) (hc : CL h) (hf : 0 ≤ f ∧ f ≤ 9) : ∀ n : Nat, (n : Int) ≤ g 82 5 → SG (rentY h f n) (rentG g f n) ∧ rentG g f n 82 5 = g 82 5 ∧ (∀ c, c < 8 → rentG g f n 88 (41 + 17 + c) = g 88 (17 + c)) ∧ AgC h (rentY h f n)
  | 0, _ => ⟨SG_start hb hc, lend5, fun c hc => by show lendM g 88 (41 + 17 + c) = _; rw [show 41 + 17 + c = 41 + (17 + c) by omega]; exact lend_r _ (by omega), ag_bec hc⟩
  | n + 1, hn => by
    obtain ⟨i1, i2, i3, i4⟩ := SG_rent hb hc hf n (by omega)
    have h8 := BB_P hb
    refine ⟨?_, by show setsM (rentG g f n) 41 n f 82 5 = _; rw [setsM_o _ _ (by omega)]; exact i2, fun c hc => by show setsM (rentG g f n) 41 n f 88 (41 + 17 + c) = _; rw [setsM_o _ _ (by omega)]; exact i3 c hc, ag_send i4⟩
    have r7 := hb.2.2.1 n (by omega)
    refine SG_send0 i1 (by rw [i2]; omega) hf ?_
    rw [i3 n (by omega)]
    have := r7.2.2.2.2.1
    rw [Nat.zero_add] at this
    exact this
theorem SG_early {p : Nat} {s : Int} (hb : BB h g) (hc : CL h) (hp : (p : Int) < g 82 5) (h0 : 0 ≤ s ∧ s ≤ 120) : SG (sendX (becomeX h 12 1) 12 p (h 5 p) s) (earlyG g p s) := by
  have r7 := hb.2.2.1 p hp
  have e := r7.2.2.2.1
  rw [Nat.zero_add] at e
  have e2 : h 5 p = g 88 (9 + p) := e
  have pg := (BB_pg hb hp).2.2.1
  rw [Nat.zero_add] at pg
  rw [e2]
  exact SG_send (SG_start hb hc) (by rw [lend5]; exact hp) pg h0
theorem SG_swap {p q : Nat} (hb : BB h g) (hc : CL h) (hp : (p : Int) < g 82 5) (hq : (q : Int) < g 82 5) : SG (sendX (sendX (becomeX h 12 1) 12 p (h 5 q) (h 6 p)) 12 q (h 5 p) (h 6 q)) (swapG g p q) := by
  have h8 := BB_P hb
  have e : ∀ p : Nat, (p : Int) < g 82 5 → h 5 p = g 88 (9 + p) ∧ h 6 p = g 88 (17 + p) := fun p hp => by
    have r7 := hb.2.2.1 p hp
    rw [Nat.zero_add, Nat.zero_add, Nat.zero_add, Nat.zero_add, Nat.zero_add] at r7
    exact ⟨r7.2.2.2.1, r7.2.2.2.2.1⟩
  have gq : ∀ p : Nat, (p : Int) < g 82 5 → 0 ≤ g 88 (9 + p) ∧ g 88 (9 + p) ≤ 9 := fun p hp => by
    have := (BB_pg hb hp).2.2.1
    rw [Nat.zero_add] at this; exact this
  rw [(e p hp).1, (e p hp).2, (e q hq).1, (e q hq).2]
  have l : ∀ p, p < 8 → lendM g 88 (41 + 17 + p) = g 88 (17 + p) := fun p hp => by rw [show 41 + 17 + p = 41 + (17 + p) by omega]; exact lend_r _ (by omega)
  have s1 := SG_send0 (pp := p) (gl := g 88 (9 + q)) (s := g 88 (17 + p)) (SG_start hb hc) (by rw [lend5]; exact hp) (gq q hq) (l p (by omega)).symm
  exact SG_send0 s1 (by rw [setsM_o _ _ (by omega), lend5]; exact hq) (gq p hp) (by rw [setsM_o _ _ (by omega)]; exact (l q (by omega)).symm)
theorem SG_enough {v : Int} (hb : BB h g) (hc : CL h) (hv : 1 ≤ v ∧ v ≤ 9) : SG (hu (becomeX h 12 1) 12 12 v) (hu (lendM g) 82 0 v) := SG_room (SG_start hb hc) hv
theorem SG_hat {f n : Int} (hs : SG y g) (h3 : g 82 1 ≤ 3) (hf : 0 ≤ f ∧ f ≤ 8) {m : Int} (hm : 0 ≤ m ∧ m ≤ 99) (hn : 1 ≤ n ∧ n ≤ 30) : SG (addHatX y 12 f m n) (addHatM g f m n) := by
  obtain ⟨⟨a1, a2, a3⟩, a4, r7, rh, mg, h9, hc, w1, w2⟩ := hs
  obtain ⟨m1, m2, m3, m4, m5, m6, m7, m8⟩ := mg
  obtain ⟨k, hk⟩ : ∃ k : Nat, g 82 1 = k := ⟨(g 82 1).toNat, by omega⟩
  have ey : addHatX y 12 f m n = hu (hu (hu (hu y 20 k f) 21 k m) 22 k n) 12 8 (k + 1) := by
    unfold addHatX; rw [a2, hk, if_pos (by omega), Int.toNat_natCast]
  have eg : addHatM g f m n = hu (hu (hu (hu g 83 k f) 84 k m) 85 k n) 82 1 (k + 1) := by
    unfold addHatM; rw [hk, Int.toNat_natCast]
  rw [ey, eg]
  have o1 : ∀ a c, (a ≠ 12 ∨ c ≠ 8) ∧ a ≠ 20 ∧ a ≠ 21 ∧ a ≠ 22 → hu (hu (hu (hu y 20 k f) 21 k m) 22 k n) 12 8 (k + 1) a c = y a c := fun a c q => by rw [hu_o (by omega), hu_o (by omega), hu_o (by omega), hu_o (by omega)]
  have o2 : ∀ a c, (a ≠ 82 ∨ c ≠ 1) ∧ a ≠ 83 ∧ a ≠ 84 ∧ a ≠ 85 → hu (hu (hu (hu g 83 k f) 84 k m) 85 k n) 82 1 (k + 1) a c = g a c := fun a c q => by rw [hu_o (by omega), hu_o (by omega), hu_o (by omega), hu_o (by omega)]
  have v1 : hu (hu (hu (hu g 83 k f) 84 k m) 85 k n) 82 1 (k + 1) 82 1 = k + 1 := by simp [hu]
  have v2 : ∀ c, hu (hu (hu (hu g 83 k f) 84 k m) 85 k n) 82 1 (k + 1) 83 c = (if c = k then f else g 83 c) ∧ hu (hu (hu (hu g 83 k f) 84 k m) 85 k n) 82 1 (k + 1) 84 c = (if c = k then m else g 84 c) ∧ hu (hu (hu (hu g 83 k f) 84 k m) 85 k n) 82 1 (k + 1) 85 c = (if c = k then n else g 85 c) := fun c => by
    refine ⟨?_, ?_, ?_⟩ <;> simp [hu]
  have v3 : ∀ c, hu (hu (hu (hu y 20 k f) 21 k m) 22 k n) 12 8 (k + 1) (12 + 8) c = (if c = k then f else y 20 c) ∧ hu (hu (hu (hu y 20 k f) 21 k m) 22 k n) 12 8 (k + 1) (12 + 9) c = (if c = k then m else y 21 c) ∧ hu (hu (hu (hu y 20 k f) 21 k m) 22 k n) 12 8 (k + 1) (12 + 10) c = (if c = k then n else y 22 c) := fun c => by
    refine ⟨?_, ?_, ?_⟩ <;> simp [hu]
  refine ⟨⟨by rw [o1 _ _ (by omega), o2 _ _ (by omega)]; exact a1, by rw [v1]; simp [hu], by rw [o1 _ _ (by omega), o2 _ _ (by omega)]; exact a3⟩, by rw [o1 _ _ (by omega), o2 _ _ (by omega)]; exact a4, fun c hc => ?_, fun c hc => ?_, ⟨by rw [o2 _ _ (by omega)]; exact m1, by rw [v1]; omega, by rw [o2 _ _ (by omega)]; exact m3, by rw [o2 _ _ (by omega)]; exact m4, fun c hc => ?_, fun c hc => ?_, fun j => by rw [o2 _ _ (by omega)]; exact m7 j, ?_⟩, by rw [o2 _ _ (by omega)]; exact h9, ⟨fun j => by rw [o1 _ _ (by omega)]; exact hc.1 j, fun j => by rw [o1 _ _ (by omega)]; exact hc.2 j⟩, fun c hc => by rw [o2 _ _ (by omega)] at hc ⊢; exact w1 c hc, fun c hc => by rw [o2 _ _ (by omega)]; exact w2 c hc⟩
  · rw [o2 _ _ (by omega)] at hc
    have := r7 c hc
    rw [o1 _ _ (by omega), o1 _ _ (by omega), o1 _ _ (by omega), o1 _ _ (by omega), o1 _ _ (by omega), o1 _ _ (by omega), o1 _ _ (by omega), o2 _ _ (by omega), o2 _ _ (by omega), o2 _ _ (by omega), o2 _ _ (by omega), o2 _ _ (by omega), o2 _ _ (by omega), o2 _ _ (by omega)]
    exact this
  · rw [v1] at hc
    obtain ⟨u1, u2, u3⟩ := v2 c
    obtain ⟨t1, t2, t3⟩ := v3 c
    rw [u1, u2, u3, t1, t2, t3]
    by_cases e : c = k
    · rw [if_pos e, if_pos e, if_pos e, if_pos e, if_pos e, if_pos e]; exact ⟨⟨rfl, rfl, rfl⟩, hf⟩
    · rw [if_neg e, if_neg e, if_neg e, if_neg e, if_neg e, if_neg e]; exact rh c (by omega)
  · rw [o2 _ _ (by omega)] at hc
    have := m5 c hc
    unfold PG MH at *
    rw [o2 _ _ (by omega), o2 _ _ (by omega), o2 _ _ (by omega), o2 _ _ (by omega), o2 _ _ (by omega), o2 _ _ (by omega), o2 _ _ (by omega)]
    exact this
  · rw [v1] at hc
    obtain ⟨u1, u2, u3⟩ := v2 c
    unfold HG
    rw [u1, u2, u3]
    by_cases e : c = k
    · rw [if_pos e, if_pos e, if_pos e]; omega
    · rw [if_neg e, if_neg e, if_neg e]; exact m6 c (by omega)
  · obtain ⟨ww, m8⟩ := m8
    exact ⟨ww, fun j => by rw [o2 _ _ (by omega)]; exact m8 j⟩
theorem SG_worst {f n : Int} (hb : BB h g) (hc : CL h) (h3 : g 82 1 ≤ 3) (hf : 0 ≤ f ∧ f ≤ 8) (hm : g 88 0 ≤ 99) (hn : 1 ≤ n ∧ n ≤ 30) : SG (addHatX (becomeX h 12 1) 12 f (h 1 13) n) (addHatM (lendM g) f (g 88 0) n) := by
  rw [hb.2.1]
  exact SG_hat (SG_start hb hc) (by rw [lend_o _ _ (by omega)]; exact h3) hf ⟨(BB_M hb).1, hm⟩ hn
theorem ag_hat {f m n : Int} (q : AgC h y) : AgC h (addHatX y 12 f m n) := by
  have o1 : ∀ a c, a ≠ 12 ∧ a ≠ 20 ∧ a ≠ 21 ∧ a ≠ 22 → addHatX y 12 f m n a c = y a c := fun a c q => by
    unfold addHatX; split
    · rw [hu_o (by omega), hu_o (by omega), hu_o (by omega), hu_o (by omega)]
    · rfl
  exact ⟨fun a c z1 z2 z3 => by rw [o1 _ _ (by omega)]; exact q.1 a c z1 z2 z3, ⟨fun j => by rw [o1 _ _ (by omega)]; exact q.2.1 j, fun j => by rw [o1 _ _ (by omega)]; exact q.2.2 j⟩⟩
-- two models that the same class stands beside give the same
theorem arr_c (s1 : SG y g) (s2 : SG y g') (e5 : g' 82 5 = g 82 5) {p : Nat} (hp : (p : Int) < g 82 5) : orN (goMo 41 120 g 88 (74 + p)) = orN (goMo 41 120 g' 88 (74 + p)) := by
  rw [← SG_arr s1 hp, ← SG_arr s2 (by rw [e5]; exact hp)]
theorem BB_5 (hb : BB h g) (hb' : BB h g') : g' 82 5 = g 82 5 := by rw [← hb.1.1, ← hb'.1.1]
theorem BB_0 (hb : BB h g) (hb' : BB h g') : g' 88 0 = g 88 0 := by rw [← hb.2.1, ← hb'.2.1]
theorem orN_if {u v : Int} (e : orN u = orN v) (w : Int) : (if u < 0 then w else u) = if v < 0 then w else v := by
  unfold orN at e
  by_cases c : u < 0
  · by_cases c2 : v < 0
    · rw [if_pos c, if_pos c2]
    · rw [if_pos c, if_neg c2] at e; omega
  · by_cases c2 : v < 0
    · rw [if_neg c, if_pos c2] at e; omega
    · rw [if_neg c, if_neg c2] at e; rw [if_neg c, if_neg c2]; exact e
theorem whenF_c {p : Nat} (hb : BB h g) (hb' : BB h g') (hc : CL h) (hp : (p : Int) < g 82 5) : whenF g p = whenF g' p := orN_if (arr_c (SG_start hb hc) (SG_start hb' hc) (by rw [lend5, lend5]; exact BB_5 hb hb') (by rw [lend5]; exact hp)) (-3)
theorem lastF_c (hb : BB h g) (hb' : BB h g') (hc : CL h) : lastF g = lastF g' := by unfold lastF; rw [← SG_late (SG_start hb hc), ← SG_late (SG_start hb' hc)]
theorem waitF_c {p : Nat} (hb : BB h g) (hb' : BB h g') (hc : CL h) (hp : (p : Int) < g 82 5) : waitF g p = waitF g' p := by
  unfold waitF; rw [← SG_wait (SG_start hb hc) (by rw [lend5]; exact hp), ← SG_wait (SG_start hb' hc) (by rw [lend5, BB_5 hb hb']; exact hp)]
theorem crowdF_c {f : Nat} (hb : BB h g) (hb' : BB h g') (hc : CL h) (hf : f < 9) : crowdF g f = crowdF g' f := by
  unfold crowdF; rw [← SG_crowd (SG_start hb hc) hf, ← SG_crowd (SG_start hb' hc) hf]
theorem on_eq {x z : AH} (f : Int) : ∀ n : Nat, (∀ c, c < n → x 15 c = z 88 (42 + c)) → onX x 12 f n = onM z f n
  | 0, _ => rfl
  | n + 1, e => by
    unfold onX onM
    rw [on_eq f n (fun c hc => e c (by omega)), show x (12 + 3) n = z 88 (42 + n) from e n (by omega)]
theorem there_eq {f mi : Int} (hb : BB h g) (hc : CL h) (h0 : g 88 0 ≤ mi) (h1 : mi ≤ 119) : onX (tryX (becomeX h 12 1) 12 (mi + 1)) 12 f (tryX (becomeX h 12 1) 12 (mi + 1) 12 0).toNat = thereF g f mi := by
  have sg := SG_start hb hc
  rw [SG_cntE sg (by rw [lend41]; omega) (by omega), lend5]
  unfold thereF
  refine on_eq f _ (fun c hc => ?_)
  have := SG_floorE sg (ee := mi + 1) (p := c) (by rw [lend41]; omega) (by omega) (by rw [lend5]; omega)
  rw [lend41] at this
  exact this
theorem thereF_c {f mi : Int} (hb : BB h g) (hb' : BB h g') (hc : CL h) (h0 : g 88 0 ≤ mi) (h1 : mi ≤ 119) : thereF g f mi = thereF g' f mi := by
  rw [← there_eq hb hc h0 h1, ← there_eq hb' hc (by rw [BB_0 hb hb']; exact h0) h1]
theorem drill_last (hb : BB h g) (hc : CL h) : lateX (tryX (drillY h (g 82 5).toNat) 12 120) 12 = lastM (goMo 41 120 (drillG g (g 82 5).toNat)) := SG_late (SG_drill hb hc (g 82 5).toNat (by have := BB_P hb; omega)).1
theorem drillF_c (hb : BB h g) (hb' : BB h g') (hc : CL h) : drillF g = drillF g' := by
  have e := drill_last hb hc
  have e' := drill_last hb' hc
  rw [BB_5 hb hb'] at e'
  unfold drillF
  rw [BB_5 hb hb', BB_0 hb hb', ← e, ← e']
theorem rent_arr {f : Int} (hb : BB h g) (hc : CL h) (hf : 0 ≤ f ∧ f ≤ 9) {p : Nat} (hp : (p : Int) < g 82 5) : tryX (rentY h f (g 82 5).toNat) 12 120 19 p = orN (goMo 41 120 (rentG g f (g 82 5).toNat) 88 (74 + p)) := by
  obtain ⟨s1, s2, -⟩ := SG_rent hb hc hf (g 82 5).toNat (by have := BB_P hb; omega)
  exact SG_arr s1 (by rw [s2]; exact hp)
theorem rentF_c {f : Int} (hb : BB h g) (hb' : BB h g') (hc : CL h) (hf : 0 ≤ f ∧ f ≤ 9) : rentF g f = rentF g' f := by
  have h8 := BB_P hb
  unfold rentF
  rw [BB_5 hb hb']
  have key : ∀ n : Nat, (n : Int) ≤ g 82 5 → rentS (goMo 41 120 (rentG g f (g 82 5).toNat)) g n = rentS (goMo 41 120 (rentG g' f (g 82 5).toNat)) g' n := by
    intro n
    induction n with
    | zero => intro _; rfl
    | succ n ih =>
      intro hn
      unfold rentS
      have a1 := rent_arr hb hc hf (p := n) (by omega)
      have a2 := rent_arr hb' hc hf (p := n) (by rw [BB_5 hb hb']; omega)
      rw [BB_5 hb hb', a1] at a2
      have s1 : g' 88 (17 + n) = g 88 (17 + n) := by
        have r1 := (hb.2.2.1 n (by omega)).2.2.2.2.1
        have r2 := (hb'.2.2.1 n (by rw [BB_5 hb hb']; omega)).2.2.2.2.1
        rw [Nat.zero_add] at r1 r2
        rw [← r1, ← r2]
      rw [ih (by omega), s1]
      congr 2
      unfold orN at a2
      by_cases c : goMo 41 120 (rentG g f (g 82 5).toNat) 88 (74 + n) < 0
      · by_cases c2 : goMo 41 120 (rentG g' f (g 82 5).toNat) 88 (74 + n) < 0
        · rw [if_pos c, if_pos c2]
        · rw [if_pos c, if_neg c2] at a2; omega
      · by_cases c2 : goMo 41 120 (rentG g' f (g 82 5).toNat) 88 (74 + n) < 0
        · rw [if_neg c, if_pos c2] at a2; omega
        · rw [if_neg c, if_neg c2] at a2; rw [if_neg c, if_neg c2, a2]
  exact key _ (by omega)
theorem worstV_c {n f : Int} (hb : BB h g) (hb' : BB h g') (hc : CL h) (h3 : g 82 1 ≤ 3) (hf : 0 ≤ f ∧ f ≤ 8) (hm : g 88 0 ≤ 99) (hn : 1 ≤ n ∧ n ≤ 30) : worstV g n f = worstV g' n f := by
  unfold worstV
  rw [← SG_late (SG_worst hb hc h3 hf hm hn), ← SG_late (SG_worst hb' hc (by rw [← hb'.1.2.1, hb.1.2.1]; exact h3) hf (by rw [BB_0 hb hb']; exact hm) hn)]
theorem swapV_c {p q : Nat} (hb : BB h g) (hb' : BB h g') (hc : CL h) (hp : (p : Int) < g 82 5) (hq : (q : Int) < g 82 5) : swapV g p q = swapV g' p q := by
  unfold swapV
  rw [← SG_late (SG_swap hb hc hp hq), ← SG_late (SG_swap hb' hc (by rw [BB_5 hb hb']; exact hp) (by rw [BB_5 hb hb']; exact hq))]
theorem earlyV_c {p : Nat} {s : Int} (hb : BB h g) (hb' : BB h g') (hc : CL h) (hp : (p : Int) < g 82 5) (h0 : 0 ≤ s ∧ s ≤ 120) : orN (earlyV g p s) = orN (earlyV g' p s) := by
  have e : ∀ g, earlyG g p s 82 5 = g 82 5 := fun g => by unfold earlyG; rw [hu_o (by omega), setsM_o _ _ (by omega), lend5]
  exact arr_c (SG_early hb hc hp h0) (SG_early hb' hc (by rw [BB_5 hb hb']; exact hp) h0) (by rw [e, e]; exact BB_5 hb hb') (by rw [e]; exact hp)
end L3H
