theorem swt_d0_6 (pc : Nat) (d : Int) (os : Array Int) (x : Int32) (h0 : ¬ x = 0) (h1 : ¬ x = 1) (h2 : ¬ x = 2) (h3 : ¬ x = 3) (h4 : ¬ x = 4) (h5 : ¬ x = 5) (h6 : ¬ x = 6) : swt pc d 0 6 os x = ((pc : Int) + d).toNat := by
  have hx : x.toInt < 0 ∨ 6 < x.toInt := by
    have e : ∀ k : Int32, ¬ x = k → ¬ x.toInt = k.toInt := fun k h q => h (Int32.toInt_inj.mp q)
    have e0 : ¬ x.toInt = 0 := e 0 h0
    have e1 : ¬ x.toInt = 1 := e 1 h1
    have e2 : ¬ x.toInt = 2 := e 2 h2
    have e3 : ¬ x.toInt = 3 := e 3 h3
    have e4 : ¬ x.toInt = 4 := e 4 h4
    have e5 : ¬ x.toInt = 5 := e 5 h5
    have e6 : ¬ x.toInt = 6 := e 6 h6
    omega
  unfold swt
  rw [if_pos hx]
theorem swt_d0_7 (pc : Nat) (d : Int) (os : Array Int) (x : Int32) (h0 : ¬ x = 0) (h1 : ¬ x = 1) (h2 : ¬ x = 2) (h3 : ¬ x = 3) (h4 : ¬ x = 4) (h5 : ¬ x = 5) (h6 : ¬ x = 6) (h7 : ¬ x = 7) : swt pc d 0 7 os x = ((pc : Int) + d).toNat := by
  have hx : x.toInt < 0 ∨ 7 < x.toInt := by
    have e : ∀ k : Int32, ¬ x = k → ¬ x.toInt = k.toInt := fun k h q => h (Int32.toInt_inj.mp q)
    have e0 : ¬ x.toInt = 0 := e 0 h0
    have e1 : ¬ x.toInt = 1 := e 1 h1
    have e2 : ¬ x.toInt = 2 := e 2 h2
    have e3 : ¬ x.toInt = 3 := e 3 h3
    have e4 : ¬ x.toInt = 4 := e 4 h4
    have e5 : ¬ x.toInt = 5 := e 5 h5
    have e6 : ¬ x.toInt = 6 := e 6 h6
    have e7 : ¬ x.toInt = 7 := e 7 h7
    omega
  unfold swt
  rw [if_pos hx]
theorem swt_d0_8 (pc : Nat) (d : Int) (os : Array Int) (x : Int32) (h0 : ¬ x = 0) (h1 : ¬ x = 1) (h2 : ¬ x = 2) (h3 : ¬ x = 3) (h4 : ¬ x = 4) (h5 : ¬ x = 5) (h6 : ¬ x = 6) (h7 : ¬ x = 7) (h8 : ¬ x = 8) : swt pc d 0 8 os x = ((pc : Int) + d).toNat := by
  have hx : x.toInt < 0 ∨ 8 < x.toInt := by
    have e : ∀ k : Int32, ¬ x = k → ¬ x.toInt = k.toInt := fun k h q => h (Int32.toInt_inj.mp q)
    have e0 : ¬ x.toInt = 0 := e 0 h0
    have e1 : ¬ x.toInt = 1 := e 1 h1
    have e2 : ¬ x.toInt = 2 := e 2 h2
    have e3 : ¬ x.toInt = 3 := e 3 h3
    have e4 : ¬ x.toInt = 4 := e 4 h4
    have e5 : ¬ x.toInt = 5 := e 5 h5
    have e6 : ¬ x.toInt = 6 := e 6 h6
    have e7 : ¬ x.toInt = 7 := e 7 h7
    have e8 : ¬ x.toInt = 8 := e 8 h8
    omega
  unfold swt
  rw [if_pos hx]
theorem swt_d0_55 (pc : Nat) (d : Int) (os : Array Int) (x : Int32) (h0 : ¬ x = 0) (h1 : ¬ x = 1) (h2 : ¬ x = 2) (h3 : ¬ x = 3) (h4 : ¬ x = 4) (h5 : ¬ x = 5) (h6 : ¬ x = 6) (h7 : ¬ x = 7) (h8 : ¬ x = 8) (h9 : ¬ x = 9) (h10 : ¬ x = 10) (h11 : ¬ x = 11) (h12 : ¬ x = 12) (h13 : ¬ x = 13) (h14 : ¬ x = 14) (h15 : ¬ x = 15) (h16 : ¬ x = 16) (h17 : ¬ x = 17) (h18 : ¬ x = 18) (h19 : ¬ x = 19) (h20 : ¬ x = 20) (h21 : ¬ x = 21) (h22 : ¬ x = 22) (h23 : ¬ x = 23) (h24 : ¬ x = 24) (h25 : ¬ x = 25) (h26 : ¬ x = 26) (h27 : ¬ x = 27) (h28 : ¬ x = 28) (h29 : ¬ x = 29) (h30 : ¬ x = 30) (h31 : ¬ x = 31) (h32 : ¬ x = 32) (h33 : ¬ x = 33) (h34 : ¬ x = 34) (h35 : ¬ x = 35) (h36 : ¬ x = 36) (h37 : ¬ x = 37) (h38 : ¬ x = 38) (h39 : ¬ x = 39) (h40 : ¬ x = 40) (h41 : ¬ x = 41) (h42 : ¬ x = 42) (h43 : ¬ x = 43) (h44 : ¬ x = 44) (h45 : ¬ x = 45) (h46 : ¬ x = 46) (h47 : ¬ x = 47) (h48 : ¬ x = 48) (h49 : ¬ x = 49) (h50 : ¬ x = 50) (h51 : ¬ x = 51) (h52 : ¬ x = 52) (h53 : ¬ x = 53) (h54 : ¬ x = 54) (h55 : ¬ x = 55) : swt pc d 0 55 os x = ((pc : Int) + d).toNat := by
  have hx : x.toInt < 0 ∨ 55 < x.toInt := by
    have e : ∀ k : Int32, ¬ x = k → ¬ x.toInt = k.toInt := fun k h q => h (Int32.toInt_inj.mp q)
    have e0 : ¬ x.toInt = 0 := e 0 h0
    have e1 : ¬ x.toInt = 1 := e 1 h1
    have e2 : ¬ x.toInt = 2 := e 2 h2
    have e3 : ¬ x.toInt = 3 := e 3 h3
    have e4 : ¬ x.toInt = 4 := e 4 h4
    have e5 : ¬ x.toInt = 5 := e 5 h5
    have e6 : ¬ x.toInt = 6 := e 6 h6
    have e7 : ¬ x.toInt = 7 := e 7 h7
    have e8 : ¬ x.toInt = 8 := e 8 h8
    have e9 : ¬ x.toInt = 9 := e 9 h9
    have e10 : ¬ x.toInt = 10 := e 10 h10
    have e11 : ¬ x.toInt = 11 := e 11 h11
    have e12 : ¬ x.toInt = 12 := e 12 h12
    have e13 : ¬ x.toInt = 13 := e 13 h13
    have e14 : ¬ x.toInt = 14 := e 14 h14
    have e15 : ¬ x.toInt = 15 := e 15 h15
    have e16 : ¬ x.toInt = 16 := e 16 h16
    have e17 : ¬ x.toInt = 17 := e 17 h17
    have e18 : ¬ x.toInt = 18 := e 18 h18
    have e19 : ¬ x.toInt = 19 := e 19 h19
    have e20 : ¬ x.toInt = 20 := e 20 h20
    have e21 : ¬ x.toInt = 21 := e 21 h21
    have e22 : ¬ x.toInt = 22 := e 22 h22
    have e23 : ¬ x.toInt = 23 := e 23 h23
    have e24 : ¬ x.toInt = 24 := e 24 h24
    have e25 : ¬ x.toInt = 25 := e 25 h25
    have e26 : ¬ x.toInt = 26 := e 26 h26
    have e27 : ¬ x.toInt = 27 := e 27 h27
    have e28 : ¬ x.toInt = 28 := e 28 h28
    have e29 : ¬ x.toInt = 29 := e 29 h29
    have e30 : ¬ x.toInt = 30 := e 30 h30
    have e31 : ¬ x.toInt = 31 := e 31 h31
    have e32 : ¬ x.toInt = 32 := e 32 h32
    have e33 : ¬ x.toInt = 33 := e 33 h33
    have e34 : ¬ x.toInt = 34 := e 34 h34
    have e35 : ¬ x.toInt = 35 := e 35 h35
    have e36 : ¬ x.toInt = 36 := e 36 h36
    have e37 : ¬ x.toInt = 37 := e 37 h37
    have e38 : ¬ x.toInt = 38 := e 38 h38
    have e39 : ¬ x.toInt = 39 := e 39 h39
    have e40 : ¬ x.toInt = 40 := e 40 h40
    have e41 : ¬ x.toInt = 41 := e 41 h41
    have e42 : ¬ x.toInt = 42 := e 42 h42
    have e43 : ¬ x.toInt = 43 := e 43 h43
    have e44 : ¬ x.toInt = 44 := e 44 h44
    have e45 : ¬ x.toInt = 45 := e 45 h45
    have e46 : ¬ x.toInt = 46 := e 46 h46
    have e47 : ¬ x.toInt = 47 := e 47 h47
    have e48 : ¬ x.toInt = 48 := e 48 h48
    have e49 : ¬ x.toInt = 49 := e 49 h49
    have e50 : ¬ x.toInt = 50 := e 50 h50
    have e51 : ¬ x.toInt = 51 := e 51 h51
    have e52 : ¬ x.toInt = 52 := e 52 h52
    have e53 : ¬ x.toInt = 53 := e 53 h53
    have e54 : ¬ x.toInt = 54 := e 54 h54
    have e55 : ¬ x.toInt = 55 := e 55 h55
    omega
  unfold swt
  rw [if_pos hx]
theorem swt_d1_10 (pc : Nat) (d : Int) (os : Array Int) (x : Int32) (h1 : ¬ x = 1) (h2 : ¬ x = 2) (h3 : ¬ x = 3) (h4 : ¬ x = 4) (h5 : ¬ x = 5) (h6 : ¬ x = 6) (h7 : ¬ x = 7) (h8 : ¬ x = 8) (h9 : ¬ x = 9) (h10 : ¬ x = 10) : swt pc d 1 10 os x = ((pc : Int) + d).toNat := by
  have hx : x.toInt < 1 ∨ 10 < x.toInt := by
    have e : ∀ k : Int32, ¬ x = k → ¬ x.toInt = k.toInt := fun k h q => h (Int32.toInt_inj.mp q)
    have e1 : ¬ x.toInt = 1 := e 1 h1
    have e2 : ¬ x.toInt = 2 := e 2 h2
    have e3 : ¬ x.toInt = 3 := e 3 h3
    have e4 : ¬ x.toInt = 4 := e 4 h4
    have e5 : ¬ x.toInt = 5 := e 5 h5
    have e6 : ¬ x.toInt = 6 := e 6 h6
    have e7 : ¬ x.toInt = 7 := e 7 h7
    have e8 : ¬ x.toInt = 8 := e 8 h8
    have e9 : ¬ x.toInt = 9 := e 9 h9
    have e10 : ¬ x.toInt = 10 := e 10 h10
    omega
  unfold swt
  rw [if_pos hx]
