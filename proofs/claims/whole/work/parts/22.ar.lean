/-! entries of methods, fields, rows, numbers -/
theorem e0 {G : MG} {d : Nat} {a0 : Nat} {h : MH} {Q : KQ} : wpC G (d + 1) 0 [vR a0] h Q = wp G d 0 0 [some (vR a0)] [] h Q := wpC_eq (y := 0) (a := [vR a0]) (by show 1 ≤ 1; decide)
theorem e1 {G : MG} {d : Nat} {a0 : Nat} {x1 : Int} {h : MH} {Q : KQ} : wpC G (d + 1) 1 [vR a0, vI x1] h Q = wp G d 1 0 [some (vR a0), some (vI x1)] [] h Q := wpC_eq (y := 1) (a := [vR a0, vI x1]) (by show 2 ≤ 2; decide)
theorem e2 {G : MG} {d : Nat} {a0 : Nat} {h : MH} {Q : KQ} : wpC G (d + 1) 2 [vR a0] h Q = wp G d 2 0 [some (vR a0), none, none] [] h Q := wpC_eq (y := 2) (a := [vR a0]) (by show 1 ≤ 3; decide)
theorem e3 {G : MG} {d : Nat} {x1 : Int} {h : MH} {Q : KQ} : wpC G (d + 1) 3 [vI x1] h Q = wp G d 3 0 [some (vI x1)] [] h Q := wpC_eq (y := 3) (a := [vI x1]) (by show 1 ≤ 1; decide)
theorem e4 {G : MG} {d : Nat} {a0 : Nat} {x1 : Int} {x2 : Int} {x3 : Int} {h : MH} {Q : KQ} : wpC G (d + 1) 4 [vR a0, vI x1, vI x2, vI x3] h Q = wp G d 4 0 [some (vR a0), some (vI x1), some (vI x2), some (vI x3), none] [] h Q := wpC_eq (y := 4) (a := [vR a0, vI x1, vI x2, vI x3]) (by show 4 ≤ 5; decide)
theorem e5 {G : MG} {d : Nat} {x1 : Int} {h : MH} {Q : KQ} : wpC G (d + 1) 5 [vI x1] h Q = wp G d 5 0 [some (vI x1)] [] h Q := wpC_eq (y := 5) (a := [vI x1]) (by show 1 ≤ 1; decide)
theorem e6 {G : MG} {d : Nat} {x1 : Int} {x2 : Int} {x3 : Int} {x4 : Int} {h : MH} {Q : KQ} : wpC G (d + 1) 6 [vI x1, vI x2, vI x3, vI x4] h Q = wp G d 6 0 [some (vI x1), some (vI x2), some (vI x3), some (vI x4)] [] h Q := wpC_eq (y := 6) (a := [vI x1, vI x2, vI x3, vI x4]) (by show 4 ≤ 4; decide)
theorem e7 {G : MG} {d : Nat} {a0 : Nat} {x1 : Int} {x2 : Int} {h : MH} {Q : KQ} : wpC G (d + 1) 7 [vR a0, vI x1, vI x2] h Q = wp G d 7 0 [some (vR a0), some (vI x1), some (vI x2), none] [] h Q := wpC_eq (y := 7) (a := [vR a0, vI x1, vI x2]) (by show 3 ≤ 4; decide)
theorem e8 {G : MG} {d : Nat} {a0 : Nat} {x1 : Int} {x2 : Int} {x3 : Int} {h : MH} {Q : KQ} : wpC G (d + 1) 8 [vR a0, vI x1, vI x2, vI x3] h Q = wp G d 8 0 [some (vR a0), some (vI x1), some (vI x2), some (vI x3), none] [] h Q := wpC_eq (y := 8) (a := [vR a0, vI x1, vI x2, vI x3]) (by show 4 ≤ 5; decide)
theorem e9 {G : MG} {d : Nat} {a0 : Nat} {x1 : Int} {x2 : Int} {x3 : Int} {h : MH} {Q : KQ} : wpC G (d + 1) 9 [vR a0, vI x1, vI x2, vI x3] h Q = wp G d 9 0 [some (vR a0), some (vI x1), some (vI x2), some (vI x3), none, none] [] h Q := wpC_eq (y := 9) (a := [vR a0, vI x1, vI x2, vI x3]) (by show 4 ≤ 6; decide)
theorem e10 {G : MG} {d : Nat} {a0 : Nat} {x1 : Int} {x2 : Int} {h : MH} {Q : KQ} : wpC G (d + 1) 10 [vR a0, vI x1, vI x2] h Q = wp G d 10 0 [some (vR a0), some (vI x1), some (vI x2), none, none] [] h Q := wpC_eq (y := 10) (a := [vR a0, vI x1, vI x2]) (by show 3 ≤ 5; decide)
theorem e11 {G : MG} {d : Nat} {a0 : Nat} {x1 : Int} {x2 : Int} {h : MH} {Q : KQ} : wpC G (d + 1) 11 [vR a0, vI x1, vI x2] h Q = wp G d 11 0 [some (vR a0), some (vI x1), some (vI x2), none] [] h Q := wpC_eq (y := 11) (a := [vR a0, vI x1, vI x2]) (by show 3 ≤ 4; decide)
theorem e12 {G : MG} {d : Nat} {a0 : Nat} {x1 : Int} {x2 : Int} {h : MH} {Q : KQ} : wpC G (d + 1) 12 [vR a0, vI x1, vI x2] h Q = wp G d 12 0 [some (vR a0), some (vI x1), some (vI x2), none] [] h Q := wpC_eq (y := 12) (a := [vR a0, vI x1, vI x2]) (by show 3 ≤ 4; decide)
theorem e13 {G : MG} {d : Nat} {x1 : Int} {h : MH} {Q : KQ} : wpC G (d + 1) 13 [vI x1] h Q = wp G d 13 0 [some (vI x1)] [] h Q := wpC_eq (y := 13) (a := [vI x1]) (by show 1 ≤ 1; decide)
theorem e14 {G : MG} {d : Nat} {a0 : Nat} {h : MH} {Q : KQ} : wpC G (d + 1) 14 [vR a0] h Q = wp G d 14 0 [some (vR a0), none] [] h Q := wpC_eq (y := 14) (a := [vR a0]) (by show 1 ≤ 2; decide)
theorem e15 {G : MG} {d : Nat} {a0 : Nat} {x1 : Int} {x2 : Int} {h : MH} {Q : KQ} : wpC G (d + 1) 15 [vR a0, vI x1, vI x2] h Q = wp G d 15 0 [some (vR a0), some (vI x1), some (vI x2), none] [] h Q := wpC_eq (y := 15) (a := [vR a0, vI x1, vI x2]) (by show 3 ≤ 4; decide)
theorem e16 {G : MG} {d : Nat} {a0 : Nat} {x1 : Int} {h : MH} {Q : KQ} : wpC G (d + 1) 16 [vR a0, vI x1] h Q = wp G d 16 0 [some (vR a0), some (vI x1), none] [] h Q := wpC_eq (y := 16) (a := [vR a0, vI x1]) (by show 2 ≤ 3; decide)
theorem e17 {G : MG} {d : Nat} {a0 : Nat} {x1 : Int} {x2 : Int} {h : MH} {Q : KQ} : wpC G (d + 1) 17 [vR a0, vI x1, vI x2] h Q = wp G d 17 0 [some (vR a0), some (vI x1), some (vI x2), none, none] [] h Q := wpC_eq (y := 17) (a := [vR a0, vI x1, vI x2]) (by show 3 ≤ 5; decide)
theorem e18 {G : MG} {d : Nat} {a0 : Nat} {x1 : Int} {h : MH} {Q : KQ} : wpC G (d + 1) 18 [vR a0, vI x1] h Q = wp G d 18 0 [some (vR a0), some (vI x1)] [] h Q := wpC_eq (y := 18) (a := [vR a0, vI x1]) (by show 2 ≤ 2; decide)
theorem e19 {G : MG} {d : Nat} {a0 : Nat} {x1 : Int} {h : MH} {Q : KQ} : wpC G (d + 1) 19 [vR a0, vI x1] h Q = wp G d 19 0 [some (vR a0), some (vI x1)] [] h Q := wpC_eq (y := 19) (a := [vR a0, vI x1]) (by show 2 ≤ 2; decide)
theorem e20 {G : MG} {d : Nat} {x1 : Int} {h : MH} {Q : KQ} : wpC G (d + 1) 20 [vI x1] h Q = wp G d 20 0 [some (vI x1)] [] h Q := wpC_eq (y := 20) (a := [vI x1]) (by show 1 ≤ 1; decide)
theorem e21 {G : MG} {d : Nat} {a0 : Nat} {x1 : Int} {x2 : Int} {h : MH} {Q : KQ} : wpC G (d + 1) 21 [vR a0, vI x1, vI x2] h Q = wp G d 21 0 [some (vR a0), some (vI x1), some (vI x2), none, none, none] [] h Q := wpC_eq (y := 21) (a := [vR a0, vI x1, vI x2]) (by show 3 ≤ 6; decide)
theorem e22 {G : MG} {d : Nat} {a0 : Nat} {x1 : Int} {x2 : Int} {x3 : Int} {h : MH} {Q : KQ} : wpC G (d + 1) 22 [vR a0, vI x1, vI x2, vI x3] h Q = wp G d 22 0 [some (vR a0), some (vI x1), some (vI x2), some (vI x3), none] [] h Q := wpC_eq (y := 22) (a := [vR a0, vI x1, vI x2, vI x3]) (by show 4 ≤ 5; decide)
theorem e23 {G : MG} {d : Nat} {a0 : Nat} {x1 : Int} {x2 : Int} {h : MH} {Q : KQ} : wpC G (d + 1) 23 [vR a0, vI x1, vI x2] h Q = wp G d 23 0 [some (vR a0), some (vI x1), some (vI x2), none, none, none] [] h Q := wpC_eq (y := 23) (a := [vR a0, vI x1, vI x2]) (by show 3 ≤ 6; decide)
theorem e24 {G : MG} {d : Nat} {a0 : Nat} {x1 : Int} {h : MH} {Q : KQ} : wpC G (d + 1) 24 [vR a0, vI x1] h Q = wp G d 24 0 [some (vR a0), some (vI x1)] [] h Q := wpC_eq (y := 24) (a := [vR a0, vI x1]) (by show 2 ≤ 2; decide)
theorem e25 {G : MG} {d : Nat} {a0 : Nat} {x1 : Int} {h : MH} {Q : KQ} : wpC G (d + 1) 25 [vR a0, vI x1] h Q = wp G d 25 0 [some (vR a0), some (vI x1)] [] h Q := wpC_eq (y := 25) (a := [vR a0, vI x1]) (by show 2 ≤ 2; decide)
theorem e26 {G : MG} {d : Nat} {a0 : Nat} {x1 : Int} {x2 : Int} {h : MH} {Q : KQ} : wpC G (d + 1) 26 [vR a0, vI x1, vI x2] h Q = wp G d 26 0 [some (vR a0), some (vI x1), some (vI x2)] [] h Q := wpC_eq (y := 26) (a := [vR a0, vI x1, vI x2]) (by show 3 ≤ 3; decide)
theorem e27 {G : MG} {d : Nat} {a0 : Nat} {x1 : Int} {x2 : Int} {h : MH} {Q : KQ} : wpC G (d + 1) 27 [vR a0, vI x1, vI x2] h Q = wp G d 27 0 [some (vR a0), some (vI x1), some (vI x2), none, none, none, none] [] h Q := wpC_eq (y := 27) (a := [vR a0, vI x1, vI x2]) (by show 3 ≤ 7; decide)
theorem e28 {G : MG} {d : Nat} {a0 : Nat} {x1 : Int} {x2 : Int} {h : MH} {Q : KQ} : wpC G (d + 1) 28 [vR a0, vI x1, vI x2] h Q = wp G d 28 0 [some (vR a0), some (vI x1), some (vI x2), none, none, none, none] [] h Q := wpC_eq (y := 28) (a := [vR a0, vI x1, vI x2]) (by show 3 ≤ 7; decide)
theorem e29 {G : MG} {d : Nat} {a0 : Nat} {h : MH} {Q : KQ} : wpC G (d + 1) 29 [vR a0] h Q = wp G d 29 0 [some (vR a0), none, none] [] h Q := wpC_eq (y := 29) (a := [vR a0]) (by show 1 ≤ 3; decide)
theorem e30 {G : MG} {d : Nat} {a0 : Nat} {x1 : Int} {x2 : Int} {x3 : Int} {h : MH} {Q : KQ} : wpC G (d + 1) 30 [vR a0, vI x1, vI x2, vI x3] h Q = wp G d 30 0 [some (vR a0), some (vI x1), some (vI x2), some (vI x3), none, none, none] [] h Q := wpC_eq (y := 30) (a := [vR a0, vI x1, vI x2, vI x3]) (by show 4 ≤ 7; decide)
theorem e31 {G : MG} {d : Nat} {x1 : Int} {x2 : Int} {x3 : Int} {h : MH} {Q : KQ} : wpC G (d + 1) 31 [vI x1, vI x2, vI x3] h Q = wp G d 31 0 [some (vI x1), some (vI x2), some (vI x3), none, none, none, none] [] h Q := wpC_eq (y := 31) (a := [vI x1, vI x2, vI x3]) (by show 3 ≤ 7; decide)
theorem e32 {G : MG} {d : Nat} {a0 : Nat} {x1 : Int} {h : MH} {Q : KQ} : wpC G (d + 1) 32 [vR a0, vI x1] h Q = wp G d 32 0 [some (vR a0), some (vI x1), none, none, none] [] h Q := wpC_eq (y := 32) (a := [vR a0, vI x1]) (by show 2 ≤ 5; decide)
theorem e33 {G : MG} {d : Nat} {a0 : Nat} {x1 : Int} {x2 : Int} {h : MH} {Q : KQ} : wpC G (d + 1) 33 [vR a0, vI x1, vI x2] h Q = wp G d 33 0 [some (vR a0), some (vI x1), some (vI x2), none, none] [] h Q := wpC_eq (y := 33) (a := [vR a0, vI x1, vI x2]) (by show 3 ≤ 5; decide)
theorem e34 {G : MG} {d : Nat} {a0 : Nat} {x1 : Int} {h : MH} {Q : KQ} : wpC G (d + 1) 34 [vR a0, vI x1] h Q = wp G d 34 0 [some (vR a0), some (vI x1), none, none, none] [] h Q := wpC_eq (y := 34) (a := [vR a0, vI x1]) (by show 2 ≤ 5; decide)
theorem e35 {G : MG} {d : Nat} {a0 : Nat} {x1 : Int} {x2 : Int} {h : MH} {Q : KQ} : wpC G (d + 1) 35 [vR a0, vI x1, vI x2] h Q = wp G d 35 0 [some (vR a0), some (vI x1), some (vI x2)] [] h Q := wpC_eq (y := 35) (a := [vR a0, vI x1, vI x2]) (by show 3 ≤ 3; decide)
theorem e36 {G : MG} {d : Nat} {a0 : Nat} {h : MH} {Q : KQ} : wpC G (d + 1) 36 [vR a0] h Q = wp G d 36 0 [some (vR a0), none, none] [] h Q := wpC_eq (y := 36) (a := [vR a0]) (by show 1 ≤ 3; decide)
theorem e37 {G : MG} {d : Nat} {a0 : Nat} {x1 : Int} {x2 : Int} {x3 : Int} {h : MH} {Q : KQ} : wpC G (d + 1) 37 [vR a0, vI x1, vI x2, vI x3] h Q = wp G d 37 0 [some (vR a0), some (vI x1), some (vI x2), some (vI x3), none] [] h Q := wpC_eq (y := 37) (a := [vR a0, vI x1, vI x2, vI x3]) (by show 4 ≤ 5; decide)
theorem e38 {G : MG} {d : Nat} {a0 : Nat} {x1 : Int} {h : MH} {Q : KQ} : wpC G (d + 1) 38 [vR a0, vI x1] h Q = wp G d 38 0 [some (vR a0), some (vI x1)] [] h Q := wpC_eq (y := 38) (a := [vR a0, vI x1]) (by show 2 ≤ 2; decide)
theorem e39 {G : MG} {d : Nat} {a0 : Nat} {x1 : Int} {x2 : Int} {h : MH} {Q : KQ} : wpC G (d + 1) 39 [vR a0, vI x1, vI x2] h Q = wp G d 39 0 [some (vR a0), some (vI x1), some (vI x2), none] [] h Q := wpC_eq (y := 39) (a := [vR a0, vI x1, vI x2]) (by show 3 ≤ 4; decide)
theorem e40 {G : MG} {d : Nat} {x1 : Option Nat} {x2 : Int} {h : MH} {Q : KQ} : wpC G (d + 1) 40 [vO x1, vI x2] h Q = wp G d 40 0 [some (vO x1), some (vI x2)] [] h Q := wpC_eq (y := 40) (a := [vO x1, vI x2]) (by show 2 ≤ 2; decide)
theorem e41 {G : MG} {d : Nat} {a0 : Nat} {h : MH} {Q : KQ} : wpC G (d + 1) 41 [vR a0] h Q = wp G d 41 0 [some (vR a0)] [] h Q := wpC_eq (y := 41) (a := [vR a0]) (by show 1 ≤ 1; decide)
theorem e42 {G : MG} {d : Nat} {a0 : Nat} {h : MH} {Q : KQ} : wpC G (d + 1) 42 [vR a0] h Q = wp G d 42 0 [some (vR a0)] [] h Q := wpC_eq (y := 42) (a := [vR a0]) (by show 1 ≤ 1; decide)
theorem e43 {G : MG} {d : Nat} {a0 : Nat} {x1 : Int} {h : MH} {Q : KQ} : wpC G (d + 1) 43 [vR a0, vI x1] h Q = wp G d 43 0 [some (vR a0), some (vI x1)] [] h Q := wpC_eq (y := 43) (a := [vR a0, vI x1]) (by show 2 ≤ 2; decide)
theorem e44 {G : MG} {d : Nat} {a0 : Nat} {h : MH} {Q : KQ} : wpC G (d + 1) 44 [vR a0] h Q = wp G d 44 0 [some (vR a0)] [] h Q := wpC_eq (y := 44) (a := [vR a0]) (by show 1 ≤ 1; decide)
theorem e45 {G : MG} {d : Nat} {a0 : Nat} {x1 : Int} {h : MH} {Q : KQ} : wpC G (d + 1) 45 [vR a0, vI x1] h Q = wp G d 45 0 [some (vR a0), some (vI x1)] [] h Q := wpC_eq (y := 45) (a := [vR a0, vI x1]) (by show 2 ≤ 2; decide)
theorem e46 {G : MG} {d : Nat} {a0 : Nat} {x1 : Int} {h : MH} {Q : KQ} : wpC G (d + 1) 46 [vR a0, vI x1] h Q = wp G d 46 0 [some (vR a0), some (vI x1)] [] h Q := wpC_eq (y := 46) (a := [vR a0, vI x1]) (by show 2 ≤ 2; decide)
theorem e47 {G : MG} {d : Nat} {a0 : Nat} {x1 : Int} {h : MH} {Q : KQ} : wpC G (d + 1) 47 [vR a0, vI x1] h Q = wp G d 47 0 [some (vR a0), some (vI x1)] [] h Q := wpC_eq (y := 47) (a := [vR a0, vI x1]) (by show 2 ≤ 2; decide)
theorem e48 {G : MG} {d : Nat} {a0 : Nat} {h : MH} {Q : KQ} : wpC G (d + 1) 48 [vR a0] h Q = wp G d 48 0 [some (vR a0)] [] h Q := wpC_eq (y := 48) (a := [vR a0]) (by show 1 ≤ 1; decide)
theorem e49 {G : MG} {d : Nat} {a0 : Nat} {x1 : Option Nat} {x2 : Int} {h : MH} {Q : KQ} : wpC G (d + 1) 49 [vR a0, vO x1, vI x2] h Q = wp G d 49 0 [some (vR a0), some (vO x1), some (vI x2)] [] h Q := wpC_eq (y := 49) (a := [vR a0, vO x1, vI x2]) (by show 3 ≤ 3; decide)
theorem e50 {G : MG} {d : Nat} {a0 : Nat} {x1 : Int} {h : MH} {Q : KQ} : wpC G (d + 1) 50 [vR a0, vI x1] h Q = wp G d 50 0 [some (vR a0), some (vI x1), none, none, none] [] h Q := wpC_eq (y := 50) (a := [vR a0, vI x1]) (by show 2 ≤ 5; decide)
theorem e51 {G : MG} {d : Nat} {a0 : Nat} {x1 : Int} {x2 : Int} {h : MH} {Q : KQ} : wpC G (d + 1) 51 [vR a0, vI x1, vI x2] h Q = wp G d 51 0 [some (vR a0), some (vI x1), some (vI x2), none] [] h Q := wpC_eq (y := 51) (a := [vR a0, vI x1, vI x2]) (by show 3 ≤ 4; decide)
theorem e52 {G : MG} {d : Nat} {a0 : Nat} {x1 : Int} {h : MH} {Q : KQ} : wpC G (d + 1) 52 [vR a0, vI x1] h Q = wp G d 52 0 [some (vR a0), some (vI x1)] [] h Q := wpC_eq (y := 52) (a := [vR a0, vI x1]) (by show 2 ≤ 2; decide)
theorem e53 {G : MG} {d : Nat} {a0 : Nat} {x1 : Option Nat} {h : MH} {Q : KQ} : wpC G (d + 1) 53 [vR a0, vO x1] h Q = wp G d 53 0 [some (vR a0), some (vO x1), none] [] h Q := wpC_eq (y := 53) (a := [vR a0, vO x1]) (by show 2 ≤ 3; decide)
theorem e54 {G : MG} {d : Nat} {a0 : Nat} {x1 : Int} {h : MH} {Q : KQ} : wpC G (d + 1) 54 [vR a0, vI x1] h Q = wp G d 54 0 [some (vR a0), some (vI x1), none, none] [] h Q := wpC_eq (y := 54) (a := [vR a0, vI x1]) (by show 2 ≤ 4; decide)
theorem e55 {G : MG} {d : Nat} {a0 : Nat} {x1 : Option Nat} {h : MH} {Q : KQ} : wpC G (d + 1) 55 [vR a0, vO x1] h Q = wp G d 55 0 [some (vR a0), some (vO x1), none] [] h Q := wpC_eq (y := 55) (a := [vR a0, vO x1]) (by show 2 ≤ 3; decide)
theorem e56 {G : MG} {d : Nat} {a0 : Nat} {x1 : Int} {h : MH} {Q : KQ} : wpC G (d + 1) 56 [vR a0, vI x1] h Q = wp G d 56 0 [some (vR a0), some (vI x1), none, none] [] h Q := wpC_eq (y := 56) (a := [vR a0, vI x1]) (by show 2 ≤ 4; decide)
theorem e57 {G : MG} {d : Nat} {a0 : Nat} {h : MH} {Q : KQ} : wpC G (d + 1) 57 [vR a0] h Q = wp G d 57 0 [some (vR a0), none, none] [] h Q := wpC_eq (y := 57) (a := [vR a0]) (by show 1 ≤ 3; decide)
theorem e58 {G : MG} {d : Nat} {a0 : Nat} {h : MH} {Q : KQ} : wpC G (d + 1) 58 [vR a0] h Q = wp G d 58 0 [some (vR a0), none, none] [] h Q := wpC_eq (y := 58) (a := [vR a0]) (by show 1 ≤ 3; decide)
theorem e59 {G : MG} {d : Nat} {a0 : Nat} {x1 : Int} {x2 : Int} {x3 : Int} {h : MH} {Q : KQ} : wpC G (d + 1) 59 [vR a0, vI x1, vI x2, vI x3] h Q = wp G d 59 0 [some (vR a0), some (vI x1), some (vI x2), some (vI x3), none, none, none, none] [] h Q := wpC_eq (y := 59) (a := [vR a0, vI x1, vI x2, vI x3]) (by show 4 ≤ 8; decide)
theorem e60 {G : MG} {d : Nat} {a0 : Nat} {x1 : Int} {h : MH} {Q : KQ} : wpC G (d + 1) 60 [vR a0, vI x1] h Q = wp G d 60 0 [some (vR a0), some (vI x1)] [] h Q := wpC_eq (y := 60) (a := [vR a0, vI x1]) (by show 2 ≤ 2; decide)
theorem e61 {G : MG} {d : Nat} {a0 : Nat} {x1 : Int} {x2 : Int} {x3 : Int} {x4 : Int} {h : MH} {Q : KQ} : wpC G (d + 1) 61 [vR a0, vI x1, vI x2, vI x3, vI x4] h Q = wp G d 61 0 [some (vR a0), some (vI x1), some (vI x2), some (vI x3), some (vI x4), none, none, none, none] [] h Q := wpC_eq (y := 61) (a := [vR a0, vI x1, vI x2, vI x3, vI x4]) (by show 5 ≤ 9; decide)
theorem e62 {G : MG} {d : Nat} {a0 : Nat} {h : MH} {Q : KQ} : wpC G (d + 1) 62 [vR a0] h Q = wp G d 62 0 [some (vR a0)] [] h Q := wpC_eq (y := 62) (a := [vR a0]) (by show 1 ≤ 1; decide)
theorem e63 {G : MG} {d : Nat} {x1 : Int} {x2 : Int} {h : MH} {Q : KQ} : wpC G (d + 1) 63 [vI x1, vI x2] h Q = wp G d 63 0 [some (vI x1), some (vI x2), none] [] h Q := wpC_eq (y := 63) (a := [vI x1, vI x2]) (by show 2 ≤ 3; decide)
theorem e64 {G : MG} {d : Nat} {x1 : Int} {h : MH} {Q : KQ} : wpC G (d + 1) 64 [vI x1] h Q = wp G d 64 0 [some (vI x1)] [] h Q := wpC_eq (y := 64) (a := [vI x1]) (by show 1 ≤ 1; decide)
theorem e65 {G : MG} {d : Nat} {x1 : Int} {h : MH} {Q : KQ} : wpC G (d + 1) 65 [vI x1] h Q = wp G d 65 0 [some (vI x1)] [] h Q := wpC_eq (y := 65) (a := [vI x1]) (by show 1 ≤ 1; decide)
theorem e66 {G : MG} {d : Nat} {a0 : Nat} {x1 : Int} {h : MH} {Q : KQ} : wpC G (d + 1) 66 [vR a0, vI x1] h Q = wp G d 66 0 [some (vR a0), some (vI x1), none, none] [] h Q := wpC_eq (y := 66) (a := [vR a0, vI x1]) (by show 2 ≤ 4; decide)
theorem e67 {G : MG} {d : Nat} {x1 : Int} {x2 : Int} {h : MH} {Q : KQ} : wpC G (d + 1) 67 [vI x1, vI x2] h Q = wp G d 67 0 [some (vI x1), some (vI x2)] [] h Q := wpC_eq (y := 67) (a := [vI x1, vI x2]) (by show 2 ≤ 2; decide)
theorem e68 {G : MG} {d : Nat} {a0 : Nat} {h : MH} {Q : KQ} : wpC G (d + 1) 68 [vR a0] h Q = wp G d 68 0 [some (vR a0), none, none, none] [] h Q := wpC_eq (y := 68) (a := [vR a0]) (by show 1 ≤ 4; decide)
theorem e69 {G : MG} {d : Nat} {a0 : Nat} {x1 : Int} {h : MH} {Q : KQ} : wpC G (d + 1) 69 [vR a0, vI x1] h Q = wp G d 69 0 [some (vR a0), some (vI x1), none, none] [] h Q := wpC_eq (y := 69) (a := [vR a0, vI x1]) (by show 2 ≤ 4; decide)
theorem e70 {G : MG} {d : Nat} {a0 : Nat} {x1 : Option Nat} {h : MH} {Q : KQ} : wpC G (d + 1) 70 [vR a0, vO x1] h Q = wp G d 70 0 [some (vR a0), some (vO x1), none] [] h Q := wpC_eq (y := 70) (a := [vR a0, vO x1]) (by show 2 ≤ 3; decide)
theorem e71 {G : MG} {d : Nat} {a0 : Nat} {x1 : Option Nat} {h : MH} {Q : KQ} : wpC G (d + 1) 71 [vR a0, vO x1] h Q = wp G d 71 0 [some (vR a0), some (vO x1)] [] h Q := wpC_eq (y := 71) (a := [vR a0, vO x1]) (by show 2 ≤ 2; decide)
theorem e72 {G : MG} {d : Nat} {a0 : Nat} {h : MH} {Q : KQ} : wpC G (d + 1) 72 [vR a0] h Q = wp G d 72 0 [some (vR a0), none, none] [] h Q := wpC_eq (y := 72) (a := [vR a0]) (by show 1 ≤ 3; decide)
theorem e73 {G : MG} {d : Nat} {a0 : Nat} {h : MH} {Q : KQ} : wpC G (d + 1) 73 [vR a0] h Q = wp G d 73 0 [some (vR a0), none, none] [] h Q := wpC_eq (y := 73) (a := [vR a0]) (by show 1 ≤ 3; decide)
theorem e74 {G : MG} {d : Nat} {a0 : Nat} {h : MH} {Q : KQ} : wpC G (d + 1) 74 [vR a0] h Q = wp G d 74 0 [some (vR a0)] [] h Q := wpC_eq (y := 74) (a := [vR a0]) (by show 1 ≤ 1; decide)
theorem e75 {G : MG} {d : Nat} {a0 : Nat} {x1 : Option Nat} {h : MH} {Q : KQ} : wpC G (d + 1) 75 [vR a0, vO x1] h Q = wp G d 75 0 [some (vR a0), some (vO x1), none] [] h Q := wpC_eq (y := 75) (a := [vR a0, vO x1]) (by show 2 ≤ 3; decide)
theorem e76 {G : MG} {d : Nat} {a0 : Nat} {h : MH} {Q : KQ} : wpC G (d + 1) 76 [vR a0] h Q = wp G d 76 0 [some (vR a0), none, none] [] h Q := wpC_eq (y := 76) (a := [vR a0]) (by show 1 ≤ 3; decide)
theorem e77 {G : MG} {d : Nat} {a0 : Nat} {x1 : Int} {h : MH} {Q : KQ} : wpC G (d + 1) 77 [vR a0, vI x1] h Q = wp G d 77 0 [some (vR a0), some (vI x1), none, none] [] h Q := wpC_eq (y := 77) (a := [vR a0, vI x1]) (by show 2 ≤ 4; decide)
theorem e78 {G : MG} {d : Nat} {a0 : Nat} {x1 : Int} {h : MH} {Q : KQ} : wpC G (d + 1) 78 [vR a0, vI x1] h Q = wp G d 78 0 [some (vR a0), some (vI x1), none, none] [] h Q := wpC_eq (y := 78) (a := [vR a0, vI x1]) (by show 2 ≤ 4; decide)
theorem e79 {G : MG} {d : Nat} {a0 : Nat} {x1 : Int} {h : MH} {Q : KQ} : wpC G (d + 1) 79 [vR a0, vI x1] h Q = wp G d 79 0 [some (vR a0), some (vI x1), none, none, none, none] [] h Q := wpC_eq (y := 79) (a := [vR a0, vI x1]) (by show 2 ≤ 6; decide)
theorem e80 {G : MG} {d : Nat} {a0 : Nat} {x1 : Int} {h : MH} {Q : KQ} : wpC G (d + 1) 80 [vR a0, vI x1] h Q = wp G d 80 0 [some (vR a0), some (vI x1)] [] h Q := wpC_eq (y := 80) (a := [vR a0, vI x1]) (by show 2 ≤ 2; decide)
theorem e81 {G : MG} {d : Nat} {a0 : Nat} {x1 : Option Nat} {h : MH} {Q : KQ} : wpC G (d + 1) 81 [vR a0, vO x1] h Q = wp G d 81 0 [some (vR a0), some (vO x1), none, none] [] h Q := wpC_eq (y := 81) (a := [vR a0, vO x1]) (by show 2 ≤ 4; decide)
theorem e82 {G : MG} {d : Nat} {a0 : Nat} {x1 : Option Nat} {x2 : Int} {x3 : Int} {h : MH} {Q : KQ} : wpC G (d + 1) 82 [vR a0, vO x1, vI x2, vI x3] h Q = wp G d 82 0 [some (vR a0), some (vO x1), some (vI x2), some (vI x3), none, none, none] [] h Q := wpC_eq (y := 82) (a := [vR a0, vO x1, vI x2, vI x3]) (by show 4 ≤ 7; decide)
theorem e83 {G : MG} {d : Nat} {a0 : Nat} {x1 : Int} {x2 : Int} {h : MH} {Q : KQ} : wpC G (d + 1) 83 [vR a0, vI x1, vI x2] h Q = wp G d 83 0 [some (vR a0), some (vI x1), some (vI x2), none, none, none] [] h Q := wpC_eq (y := 83) (a := [vR a0, vI x1, vI x2]) (by show 3 ≤ 6; decide)
theorem e84 {G : MG} {d : Nat} {a0 : Nat} {x1 : Int} {h : MH} {Q : KQ} : wpC G (d + 1) 84 [vR a0, vI x1] h Q = wp G d 84 0 [some (vR a0), some (vI x1), none, none] [] h Q := wpC_eq (y := 84) (a := [vR a0, vI x1]) (by show 2 ≤ 4; decide)
theorem e85 {G : MG} {d : Nat} {a0 : Nat} {x1 : Int} {h : MH} {Q : KQ} : wpC G (d + 1) 85 [vR a0, vI x1] h Q = wp G d 85 0 [some (vR a0), some (vI x1), none] [] h Q := wpC_eq (y := 85) (a := [vR a0, vI x1]) (by show 2 ≤ 3; decide)
theorem e86 {G : MG} {d : Nat} {a0 : Nat} {x1 : Option Nat} {h : MH} {Q : KQ} : wpC G (d + 1) 86 [vR a0, vO x1] h Q = wp G d 86 0 [some (vR a0), some (vO x1), none] [] h Q := wpC_eq (y := 86) (a := [vR a0, vO x1]) (by show 2 ≤ 3; decide)
theorem e87 {G : MG} {d : Nat} {a0 : Nat} {h : MH} {Q : KQ} : wpC G (d + 1) 87 [vR a0] h Q = wp G d 87 0 [some (vR a0)] [] h Q := wpC_eq (y := 87) (a := [vR a0]) (by show 1 ≤ 1; decide)
theorem e88 {G : MG} {d : Nat} {a0 : Nat} {h : MH} {Q : KQ} : wpC G (d + 1) 88 [vR a0] h Q = wp G d 88 0 [some (vR a0)] [] h Q := wpC_eq (y := 88) (a := [vR a0]) (by show 1 ≤ 1; decide)
theorem e89 {G : MG} {d : Nat} {a0 : Nat} {h : MH} {Q : KQ} : wpC G (d + 1) 89 [vR a0] h Q = wp G d 89 0 [some (vR a0)] [] h Q := wpC_eq (y := 89) (a := [vR a0]) (by show 1 ≤ 1; decide)
theorem e90 {G : MG} {d : Nat} {a0 : Nat} {x1 : Int} {x2 : Int} {h : MH} {Q : KQ} : wpC G (d + 1) 90 [vR a0, vI x1, vI x2] h Q = wp G d 90 0 [some (vR a0), some (vI x1), some (vI x2)] [] h Q := wpC_eq (y := 90) (a := [vR a0, vI x1, vI x2]) (by show 3 ≤ 3; decide)
theorem e91 {G : MG} {d : Nat} {a0 : Nat} {x1 : Int} {h : MH} {Q : KQ} : wpC G (d + 1) 91 [vR a0, vI x1] h Q = wp G d 91 0 [some (vR a0), some (vI x1)] [] h Q := wpC_eq (y := 91) (a := [vR a0, vI x1]) (by show 2 ≤ 2; decide)
theorem e92 {G : MG} {d : Nat} {a0 : Nat} {x1 : Int} {h : MH} {Q : KQ} : wpC G (d + 1) 92 [vR a0, vI x1] h Q = wp G d 92 0 [some (vR a0), some (vI x1)] [] h Q := wpC_eq (y := 92) (a := [vR a0, vI x1]) (by show 2 ≤ 2; decide)
theorem e93 {G : MG} {d : Nat} {a0 : Nat} {h : MH} {Q : KQ} : wpC G (d + 1) 93 [vR a0] h Q = wp G d 93 0 [some (vR a0)] [] h Q := wpC_eq (y := 93) (a := [vR a0]) (by show 1 ≤ 1; decide)
theorem e94 {G : MG} {d : Nat} {a0 : Nat} {h : MH} {Q : KQ} : wpC G (d + 1) 94 [vR a0] h Q = wp G d 94 0 [some (vR a0)] [] h Q := wpC_eq (y := 94) (a := [vR a0]) (by show 1 ≤ 1; decide)
theorem e95 {G : MG} {d : Nat} {a0 : Nat} {h : MH} {Q : KQ} : wpC G (d + 1) 95 [vR a0] h Q = wp G d 95 0 [some (vR a0), none] [] h Q := wpC_eq (y := 95) (a := [vR a0]) (by show 1 ≤ 2; decide)
theorem e96 {G : MG} {d : Nat} {a0 : Nat} {x1 : Int} {x2 : Int} {x3 : Int} {h : MH} {Q : KQ} : wpC G (d + 1) 96 [vR a0, vI x1, vI x2, vI x3] h Q = wp G d 96 0 [some (vR a0), some (vI x1), some (vI x2), some (vI x3)] [] h Q := wpC_eq (y := 96) (a := [vR a0, vI x1, vI x2, vI x3]) (by show 4 ≤ 4; decide)
theorem e97 {G : MG} {d : Nat} {a0 : Nat} {h : MH} {Q : KQ} : wpC G (d + 1) 97 [vR a0] h Q = wp G d 97 0 [some (vR a0)] [] h Q := wpC_eq (y := 97) (a := [vR a0]) (by show 1 ≤ 1; decide)
theorem e98 {G : MG} {d : Nat} {a0 : Nat} {x1 : Int} {x2 : Int} {x3 : Int} {h : MH} {Q : KQ} : wpC G (d + 1) 98 [vR a0, vI x1, vI x2, vI x3] h Q = wp G d 98 0 [some (vR a0), some (vI x1), some (vI x2), some (vI x3)] [] h Q := wpC_eq (y := 98) (a := [vR a0, vI x1, vI x2, vI x3]) (by show 4 ≤ 4; decide)
theorem e99 {G : MG} {d : Nat} {a0 : Nat} {h : MH} {Q : KQ} : wpC G (d + 1) 99 [vR a0] h Q = wp G d 99 0 [some (vR a0)] [] h Q := wpC_eq (y := 99) (a := [vR a0]) (by show 1 ≤ 1; decide)
theorem e100 {G : MG} {d : Nat} {a0 : Nat} {x1 : Int} {h : MH} {Q : KQ} : wpC G (d + 1) 100 [vR a0, vI x1] h Q = wp G d 100 0 [some (vR a0), some (vI x1)] [] h Q := wpC_eq (y := 100) (a := [vR a0, vI x1]) (by show 2 ≤ 2; decide)
theorem e101 {G : MG} {d : Nat} {a0 : Nat} {x1 : Option Nat} {x2 : Int} {x3 : Int} {x4 : Int} {h : MH} {Q : KQ} : wpC G (d + 1) 101 [vR a0, vO x1, vI x2, vI x3, vI x4] h Q = wp G d 101 0 [some (vR a0), some (vO x1), some (vI x2), some (vI x3), some (vI x4), none, none, none] [] h Q := wpC_eq (y := 101) (a := [vR a0, vO x1, vI x2, vI x3, vI x4]) (by show 5 ≤ 8; decide)
theorem e102 {G : MG} {d : Nat} {a0 : Nat} {h : MH} {Q : KQ} : wpC G (d + 1) 102 [vR a0] h Q = wp G d 102 0 [some (vR a0)] [] h Q := wpC_eq (y := 102) (a := [vR a0]) (by show 1 ≤ 1; decide)
theorem e103 {G : MG} {d : Nat} {a0 : Nat} {x1 : Option Nat} {x2 : Int} {h : MH} {Q : KQ} : wpC G (d + 1) 103 [vR a0, vO x1, vI x2] h Q = wp G d 103 0 [some (vR a0), some (vO x1), some (vI x2)] [] h Q := wpC_eq (y := 103) (a := [vR a0, vO x1, vI x2]) (by show 3 ≤ 3; decide)
theorem e104 {G : MG} {d : Nat} {a0 : Nat} {x1 : Option Nat} {x2 : Int} {h : MH} {Q : KQ} : wpC G (d + 1) 104 [vR a0, vO x1, vI x2] h Q = wp G d 104 0 [some (vR a0), some (vO x1), some (vI x2)] [] h Q := wpC_eq (y := 104) (a := [vR a0, vO x1, vI x2]) (by show 3 ≤ 3; decide)
theorem e105 {G : MG} {d : Nat} {a0 : Nat} {x1 : Option Nat} {x2 : Int} {h : MH} {Q : KQ} : wpC G (d + 1) 105 [vR a0, vO x1, vI x2] h Q = wp G d 105 0 [some (vR a0), some (vO x1), some (vI x2)] [] h Q := wpC_eq (y := 105) (a := [vR a0, vO x1, vI x2]) (by show 3 ≤ 3; decide)
theorem e106 {G : MG} {d : Nat} {a0 : Nat} {x1 : Int} {x2 : Int} {x3 : Int} {h : MH} {Q : KQ} : wpC G (d + 1) 106 [vR a0, vI x1, vI x2, vI x3] h Q = wp G d 106 0 [some (vR a0), some (vI x1), some (vI x2), some (vI x3)] [] h Q := wpC_eq (y := 106) (a := [vR a0, vI x1, vI x2, vI x3]) (by show 4 ≤ 4; decide)
theorem e107 {G : MG} {d : Nat} {a0 : Nat} {h : MH} {Q : KQ} : wpC G (d + 1) 107 [vR a0] h Q = wp G d 107 0 [some (vR a0)] [] h Q := wpC_eq (y := 107) (a := [vR a0]) (by show 1 ≤ 1; decide)
theorem e108 {G : MG} {d : Nat} {a0 : Nat} {x1 : Option Nat} {x2 : Int} {x3 : Int} {x4 : Int} {h : MH} {Q : KQ} : wpC G (d + 1) 108 [vR a0, vO x1, vI x2, vI x3, vI x4] h Q = wp G d 108 0 [some (vR a0), some (vO x1), some (vI x2), some (vI x3), some (vI x4), none, none, none, none] [] h Q := wpC_eq (y := 108) (a := [vR a0, vO x1, vI x2, vI x3, vI x4]) (by show 5 ≤ 9; decide)
theorem e109 {G : MG} {d : Nat} {a0 : Nat} {h : MH} {Q : KQ} : wpC G (d + 1) 109 [vR a0] h Q = wp G d 109 0 [some (vR a0)] [] h Q := wpC_eq (y := 109) (a := [vR a0]) (by show 1 ≤ 1; decide)
theorem e110 {G : MG} {d : Nat} {a0 : Nat} {x1 : Option Nat} {x2 : Int} {h : MH} {Q : KQ} : wpC G (d + 1) 110 [vR a0, vO x1, vI x2] h Q = wp G d 110 0 [some (vR a0), some (vO x1), some (vI x2)] [] h Q := wpC_eq (y := 110) (a := [vR a0, vO x1, vI x2]) (by show 3 ≤ 3; decide)
theorem e111 {G : MG} {d : Nat} {a0 : Nat} {x1 : Int} {x2 : Int} {x3 : Int} {h : MH} {Q : KQ} : wpC G (d + 1) 111 [vR a0, vI x1, vI x2, vI x3] h Q = wp G d 111 0 [some (vR a0), some (vI x1), some (vI x2), some (vI x3)] [] h Q := wpC_eq (y := 111) (a := [vR a0, vI x1, vI x2, vI x3]) (by show 4 ≤ 4; decide)
theorem e112 {G : MG} {d : Nat} {a0 : Nat} {h : MH} {Q : KQ} : wpC G (d + 1) 112 [vR a0] h Q = wp G d 112 0 [some (vR a0)] [] h Q := wpC_eq (y := 112) (a := [vR a0]) (by show 1 ≤ 1; decide)
theorem e113 {G : MG} {d : Nat} {a0 : Nat} {x1 : Option Nat} {x2 : Int} {x3 : Int} {x4 : Int} {h : MH} {Q : KQ} : wpC G (d + 1) 113 [vR a0, vO x1, vI x2, vI x3, vI x4] h Q = wp G d 113 0 [some (vR a0), some (vO x1), some (vI x2), some (vI x3), some (vI x4)] [] h Q := wpC_eq (y := 113) (a := [vR a0, vO x1, vI x2, vI x3, vI x4]) (by show 5 ≤ 5; decide)
theorem e114 {G : MG} {d : Nat} {a0 : Nat} {h : MH} {Q : KQ} : wpC G (d + 1) 114 [vR a0] h Q = wp G d 114 0 [some (vR a0)] [] h Q := wpC_eq (y := 114) (a := [vR a0]) (by show 1 ≤ 1; decide)
theorem e115 {G : MG} {d : Nat} {a0 : Nat} {x1 : Option Nat} {x2 : Int} {h : MH} {Q : KQ} : wpC G (d + 1) 115 [vR a0, vO x1, vI x2] h Q = wp G d 115 0 [some (vR a0), some (vO x1), some (vI x2)] [] h Q := wpC_eq (y := 115) (a := [vR a0, vO x1, vI x2]) (by show 3 ≤ 3; decide)
theorem e116 {G : MG} {d : Nat} {a0 : Nat} {x1 : Int} {x2 : Int} {x3 : Int} {h : MH} {Q : KQ} : wpC G (d + 1) 116 [vR a0, vI x1, vI x2, vI x3] h Q = wp G d 116 0 [some (vR a0), some (vI x1), some (vI x2), some (vI x3)] [] h Q := wpC_eq (y := 116) (a := [vR a0, vI x1, vI x2, vI x3]) (by show 4 ≤ 4; decide)
theorem e117 {G : MG} {d : Nat} {a0 : Nat} {h : MH} {Q : KQ} : wpC G (d + 1) 117 [vR a0] h Q = wp G d 117 0 [some (vR a0)] [] h Q := wpC_eq (y := 117) (a := [vR a0]) (by show 1 ≤ 1; decide)
theorem e118 {G : MG} {d : Nat} {a0 : Nat} {x1 : Option Nat} {x2 : Int} {x3 : Int} {x4 : Int} {h : MH} {Q : KQ} : wpC G (d + 1) 118 [vR a0, vO x1, vI x2, vI x3, vI x4] h Q = wp G d 118 0 [some (vR a0), some (vO x1), some (vI x2), some (vI x3), some (vI x4), none, none, none] [] h Q := wpC_eq (y := 118) (a := [vR a0, vO x1, vI x2, vI x3, vI x4]) (by show 5 ≤ 8; decide)
theorem e119 {G : MG} {d : Nat} {a0 : Nat} {h : MH} {Q : KQ} : wpC G (d + 1) 119 [vR a0] h Q = wp G d 119 0 [some (vR a0)] [] h Q := wpC_eq (y := 119) (a := [vR a0]) (by show 1 ≤ 1; decide)
theorem e120 {G : MG} {d : Nat} {a0 : Nat} {x1 : Option Nat} {x2 : Int} {h : MH} {Q : KQ} : wpC G (d + 1) 120 [vR a0, vO x1, vI x2] h Q = wp G d 120 0 [some (vR a0), some (vO x1), some (vI x2)] [] h Q := wpC_eq (y := 120) (a := [vR a0, vO x1, vI x2]) (by show 3 ≤ 3; decide)
theorem e121 {G : MG} {d : Nat} {a0 : Nat} {x1 : Int} {x2 : Int} {x3 : Int} {h : MH} {Q : KQ} : wpC G (d + 1) 121 [vR a0, vI x1, vI x2, vI x3] h Q = wp G d 121 0 [some (vR a0), some (vI x1), some (vI x2), some (vI x3)] [] h Q := wpC_eq (y := 121) (a := [vR a0, vI x1, vI x2, vI x3]) (by show 4 ≤ 4; decide)
theorem e122 {G : MG} {d : Nat} {a0 : Nat} {h : MH} {Q : KQ} : wpC G (d + 1) 122 [vR a0] h Q = wp G d 122 0 [some (vR a0)] [] h Q := wpC_eq (y := 122) (a := [vR a0]) (by show 1 ≤ 1; decide)
theorem e123 {G : MG} {d : Nat} {a0 : Nat} {x1 : Option Nat} {x2 : Int} {x3 : Int} {x4 : Int} {h : MH} {Q : KQ} : wpC G (d + 1) 123 [vR a0, vO x1, vI x2, vI x3, vI x4] h Q = wp G d 123 0 [some (vR a0), some (vO x1), some (vI x2), some (vI x3), some (vI x4)] [] h Q := wpC_eq (y := 123) (a := [vR a0, vO x1, vI x2, vI x3, vI x4]) (by show 5 ≤ 5; decide)
theorem e124 {G : MG} {d : Nat} {a0 : Nat} {h : MH} {Q : KQ} : wpC G (d + 1) 124 [vR a0] h Q = wp G d 124 0 [some (vR a0)] [] h Q := wpC_eq (y := 124) (a := [vR a0]) (by show 1 ≤ 1; decide)
theorem e125 {G : MG} {d : Nat} {a0 : Nat} {x1 : Option Nat} {x2 : Int} {h : MH} {Q : KQ} : wpC G (d + 1) 125 [vR a0, vO x1, vI x2] h Q = wp G d 125 0 [some (vR a0), some (vO x1), some (vI x2)] [] h Q := wpC_eq (y := 125) (a := [vR a0, vO x1, vI x2]) (by show 3 ≤ 3; decide)
theorem e126 {G : MG} {d : Nat} {a0 : Nat} {x1 : Int} {x2 : Int} {x3 : Int} {h : MH} {Q : KQ} : wpC G (d + 1) 126 [vR a0, vI x1, vI x2, vI x3] h Q = wp G d 126 0 [some (vR a0), some (vI x1), some (vI x2), some (vI x3)] [] h Q := wpC_eq (y := 126) (a := [vR a0, vI x1, vI x2, vI x3]) (by show 4 ≤ 4; decide)
theorem e127 {G : MG} {d : Nat} {a0 : Nat} {h : MH} {Q : KQ} : wpC G (d + 1) 127 [vR a0] h Q = wp G d 127 0 [some (vR a0)] [] h Q := wpC_eq (y := 127) (a := [vR a0]) (by show 1 ≤ 1; decide)
theorem e128 {G : MG} {d : Nat} {a0 : Nat} {x1 : Option Nat} {x2 : Int} {x3 : Int} {x4 : Int} {h : MH} {Q : KQ} : wpC G (d + 1) 128 [vR a0, vO x1, vI x2, vI x3, vI x4] h Q = wp G d 128 0 [some (vR a0), some (vO x1), some (vI x2), some (vI x3), some (vI x4)] [] h Q := wpC_eq (y := 128) (a := [vR a0, vO x1, vI x2, vI x3, vI x4]) (by show 5 ≤ 5; decide)
theorem e129 {G : MG} {d : Nat} {a0 : Nat} {h : MH} {Q : KQ} : wpC G (d + 1) 129 [vR a0] h Q = wp G d 129 0 [some (vR a0)] [] h Q := wpC_eq (y := 129) (a := [vR a0]) (by show 1 ≤ 1; decide)
theorem e130 {G : MG} {d : Nat} {a0 : Nat} {x1 : Option Nat} {x2 : Int} {h : MH} {Q : KQ} : wpC G (d + 1) 130 [vR a0, vO x1, vI x2] h Q = wp G d 130 0 [some (vR a0), some (vO x1), some (vI x2)] [] h Q := wpC_eq (y := 130) (a := [vR a0, vO x1, vI x2]) (by show 3 ≤ 3; decide)
theorem e131 {G : MG} {d : Nat} {a0 : Nat} {x1 : Int} {x2 : Int} {x3 : Int} {h : MH} {Q : KQ} : wpC G (d + 1) 131 [vR a0, vI x1, vI x2, vI x3] h Q = wp G d 131 0 [some (vR a0), some (vI x1), some (vI x2), some (vI x3)] [] h Q := wpC_eq (y := 131) (a := [vR a0, vI x1, vI x2, vI x3]) (by show 4 ≤ 4; decide)
theorem e132 {G : MG} {d : Nat} {a0 : Nat} {h : MH} {Q : KQ} : wpC G (d + 1) 132 [vR a0] h Q = wp G d 132 0 [some (vR a0)] [] h Q := wpC_eq (y := 132) (a := [vR a0]) (by show 1 ≤ 1; decide)
theorem e133 {G : MG} {d : Nat} {a0 : Nat} {x1 : Option Nat} {x2 : Int} {x3 : Int} {x4 : Int} {h : MH} {Q : KQ} : wpC G (d + 1) 133 [vR a0, vO x1, vI x2, vI x3, vI x4] h Q = wp G d 133 0 [some (vR a0), some (vO x1), some (vI x2), some (vI x3), some (vI x4), none] [] h Q := wpC_eq (y := 133) (a := [vR a0, vO x1, vI x2, vI x3, vI x4]) (by show 5 ≤ 6; decide)
theorem e134 {G : MG} {d : Nat} {a0 : Nat} {x1 : Int} {x2 : Int} {h : MH} {Q : KQ} : wpC G (d + 1) 134 [vR a0, vI x1, vI x2] h Q = wp G d 134 0 [some (vR a0), some (vI x1), some (vI x2), none] [] h Q := wpC_eq (y := 134) (a := [vR a0, vI x1, vI x2]) (by show 3 ≤ 4; decide)
theorem e135 {G : MG} {d : Nat} {a0 : Nat} {h : MH} {Q : KQ} : wpC G (d + 1) 135 [vR a0] h Q = wp G d 135 0 [some (vR a0), none] [] h Q := wpC_eq (y := 135) (a := [vR a0]) (by show 1 ≤ 2; decide)
theorem e136 {G : MG} {d : Nat} {a0 : Nat} {x1 : Option Nat} {x2 : Int} {h : MH} {Q : KQ} : wpC G (d + 1) 136 [vR a0, vO x1, vI x2] h Q = wp G d 136 0 [some (vR a0), some (vO x1), some (vI x2)] [] h Q := wpC_eq (y := 136) (a := [vR a0, vO x1, vI x2]) (by show 3 ≤ 3; decide)
theorem e137 {G : MG} {d : Nat} {a0 : Nat} {h : MH} {Q : KQ} : wpC G (d + 1) 137 [vR a0] h Q = wp G d 137 0 [some (vR a0), none] [] h Q := wpC_eq (y := 137) (a := [vR a0]) (by show 1 ≤ 2; decide)
theorem e138 {G : MG} {d : Nat} {a0 : Nat} {x1 : Int} {h : MH} {Q : KQ} : wpC G (d + 1) 138 [vR a0, vI x1] h Q = wp G d 138 0 [some (vR a0), some (vI x1)] [] h Q := wpC_eq (y := 138) (a := [vR a0, vI x1]) (by show 2 ≤ 2; decide)
theorem e139 {G : MG} {d : Nat} {x1 : Int} {x2 : Int} {x3 : Int} {h : MH} {Q : KQ} : wpC G (d + 1) 139 [vI x1, vI x2, vI x3] h Q = wp G d 139 0 [some (vI x1), some (vI x2), some (vI x3)] [] h Q := wpC_eq (y := 139) (a := [vI x1, vI x2, vI x3]) (by show 3 ≤ 3; decide)
theorem e140 {G : MG} {d : Nat} {a0 : Nat} {h : MH} {Q : KQ} : wpC G (d + 1) 140 [vR a0] h Q = wp G d 140 0 [some (vR a0), none] [] h Q := wpC_eq (y := 140) (a := [vR a0]) (by show 1 ≤ 2; decide)
theorem e141 {G : MG} {d : Nat} {a0 : Nat} {h : MH} {Q : KQ} : wpC G (d + 1) 141 [vR a0] h Q = wp G d 141 0 [some (vR a0)] [] h Q := wpC_eq (y := 141) (a := [vR a0]) (by show 1 ≤ 1; decide)
theorem e142 {G : MG} {d : Nat} {a0 : Nat} {h : MH} {Q : KQ} : wpC G (d + 1) 142 [vR a0] h Q = wp G d 142 0 [some (vR a0)] [] h Q := wpC_eq (y := 142) (a := [vR a0]) (by show 1 ≤ 1; decide)
theorem e143 {G : MG} {d : Nat} {a0 : Nat} {x1 : Int} {x2 : Option Nat} {h : MH} {Q : KQ} : wpC G (d + 1) 143 [vR a0, vI x1, vO x2] h Q = wp G d 143 0 [some (vR a0), some (vI x1), some (vO x2), none] [] h Q := wpC_eq (y := 143) (a := [vR a0, vI x1, vO x2]) (by show 3 ≤ 4; decide)
theorem e144 {G : MG} {d : Nat} {a0 : Nat} {x1 : Option Nat} {h : MH} {Q : KQ} : wpC G (d + 1) 144 [vR a0, vO x1] h Q = wp G d 144 0 [some (vR a0), some (vO x1), none] [] h Q := wpC_eq (y := 144) (a := [vR a0, vO x1]) (by show 2 ≤ 3; decide)
theorem e145 {G : MG} {d : Nat} {a0 : Nat} {x1 : Int} {h : MH} {Q : KQ} : wpC G (d + 1) 145 [vR a0, vI x1] h Q = wp G d 145 0 [some (vR a0), some (vI x1)] [] h Q := wpC_eq (y := 145) (a := [vR a0, vI x1]) (by show 2 ≤ 2; decide)
theorem e146 {G : MG} {d : Nat} {a0 : Nat} {h : MH} {Q : KQ} : wpC G (d + 1) 146 [vR a0] h Q = wp G d 146 0 [some (vR a0), none, none] [] h Q := wpC_eq (y := 146) (a := [vR a0]) (by show 1 ≤ 3; decide)
theorem e147 {G : MG} {d : Nat} {a0 : Nat} {x1 : Int} {x2 : Option Nat} {h : MH} {Q : KQ} : wpC G (d + 1) 147 [vR a0, vI x1, vO x2] h Q = wp G d 147 0 [some (vR a0), some (vI x1), some (vO x2), none] [] h Q := wpC_eq (y := 147) (a := [vR a0, vI x1, vO x2]) (by show 3 ≤ 4; decide)
theorem e148 {G : MG} {d : Nat} {a0 : Nat} {h : MH} {Q : KQ} : wpC G (d + 1) 148 [vR a0] h Q = wp G d 148 0 [some (vR a0)] [] h Q := wpC_eq (y := 148) (a := [vR a0]) (by show 1 ≤ 1; decide)
theorem e149 {G : MG} {d : Nat} {a0 : Nat} {h : MH} {Q : KQ} : wpC G (d + 1) 149 [vR a0] h Q = wp G d 149 0 [some (vR a0)] [] h Q := wpC_eq (y := 149) (a := [vR a0]) (by show 1 ≤ 1; decide)
theorem e150 {G : MG} {d : Nat} {a0 : Nat} {h : MH} {Q : KQ} : wpC G (d + 1) 150 [vR a0] h Q = wp G d 150 0 [some (vR a0), none, none, none, none] [] h Q := wpC_eq (y := 150) (a := [vR a0]) (by show 1 ≤ 5; decide)
theorem e151 {G : MG} {d : Nat} {a0 : Nat} {x1 : Int} {h : MH} {Q : KQ} : wpC G (d + 1) 151 [vR a0, vI x1] h Q = wp G d 151 0 [some (vR a0), some (vI x1)] [] h Q := wpC_eq (y := 151) (a := [vR a0, vI x1]) (by show 2 ≤ 2; decide)
theorem e152 {G : MG} {d : Nat} {a0 : Nat} {x1 : Option Nat} {h : MH} {Q : KQ} : wpC G (d + 1) 152 [vR a0, vO x1] h Q = wp G d 152 0 [some (vR a0), some (vO x1), none] [] h Q := wpC_eq (y := 152) (a := [vR a0, vO x1]) (by show 2 ≤ 3; decide)
theorem e153 {G : MG} {d : Nat} {a0 : Nat} {x1 : Int} {x2 : Int} {x3 : Int} {h : MH} {Q : KQ} : wpC G (d + 1) 153 [vR a0, vI x1, vI x2, vI x3] h Q = wp G d 153 0 [some (vR a0), some (vI x1), some (vI x2), some (vI x3), none, none] [] h Q := wpC_eq (y := 153) (a := [vR a0, vI x1, vI x2, vI x3]) (by show 4 ≤ 6; decide)
theorem e154 {G : MG} {d : Nat} {x1 : Int} {h : MH} {Q : KQ} : wpC G (d + 1) 154 [vI x1] h Q = wp G d 154 0 [some (vI x1)] [] h Q := wpC_eq (y := 154) (a := [vI x1]) (by show 1 ≤ 1; decide)
theorem e155 {G : MG} {d : Nat} {a0 : Nat} {x1 : Int} {x2 : Int} {h : MH} {Q : KQ} : wpC G (d + 1) 155 [vR a0, vI x1, vI x2] h Q = wp G d 155 0 [some (vR a0), some (vI x1), some (vI x2)] [] h Q := wpC_eq (y := 155) (a := [vR a0, vI x1, vI x2]) (by show 3 ≤ 3; decide)
theorem e156 {G : MG} {d : Nat} {a0 : Nat} {x1 : Int} {h : MH} {Q : KQ} : wpC G (d + 1) 156 [vR a0, vI x1] h Q = wp G d 156 0 [some (vR a0), some (vI x1)] [] h Q := wpC_eq (y := 156) (a := [vR a0, vI x1]) (by show 2 ≤ 2; decide)
theorem e157 {G : MG} {d : Nat} {a0 : Nat} {x1 : Int} {x2 : Int} {x3 : Int} {h : MH} {Q : KQ} : wpC G (d + 1) 157 [vR a0, vI x1, vI x2, vI x3] h Q = wp G d 157 0 [some (vR a0), some (vI x1), some (vI x2), some (vI x3)] [] h Q := wpC_eq (y := 157) (a := [vR a0, vI x1, vI x2, vI x3]) (by show 4 ≤ 4; decide)
theorem e158 {G : MG} {d : Nat} {a0 : Nat} {x1 : Int} {x2 : Int} {h : MH} {Q : KQ} : wpC G (d + 1) 158 [vR a0, vI x1, vI x2] h Q = wp G d 158 0 [some (vR a0), some (vI x1), some (vI x2)] [] h Q := wpC_eq (y := 158) (a := [vR a0, vI x1, vI x2]) (by show 3 ≤ 3; decide)
theorem e159 {G : MG} {d : Nat} {a0 : Nat} {x1 : Int} {x2 : Int} {h : MH} {Q : KQ} : wpC G (d + 1) 159 [vR a0, vI x1, vI x2] h Q = wp G d 159 0 [some (vR a0), some (vI x1), some (vI x2), none, none, none, none, none, none, none, none, none] [] h Q := wpC_eq (y := 159) (a := [vR a0, vI x1, vI x2]) (by show 3 ≤ 12; decide)
theorem e160 {G : MG} {d : Nat} {x1 : Int} {h : MH} {Q : KQ} : wpC G (d + 1) 160 [vI x1] h Q = wp G d 160 0 [some (vI x1), none, none] [] h Q := wpC_eq (y := 160) (a := [vI x1]) (by show 1 ≤ 3; decide)
theorem e161 {G : MG} {d : Nat} {a0 : Nat} {x1 : Int} {x2 : Int} {h : MH} {Q : KQ} : wpC G (d + 1) 161 [vR a0, vI x1, vI x2] h Q = wp G d 161 0 [some (vR a0), some (vI x1), some (vI x2)] [] h Q := wpC_eq (y := 161) (a := [vR a0, vI x1, vI x2]) (by show 3 ≤ 3; decide)
theorem e162 {G : MG} {d : Nat} {a0 : Nat} {x1 : Int} {x2 : Int} {h : MH} {Q : KQ} : wpC G (d + 1) 162 [vR a0, vI x1, vI x2] h Q = wp G d 162 0 [some (vR a0), some (vI x1), some (vI x2), none, none, none, none] [] h Q := wpC_eq (y := 162) (a := [vR a0, vI x1, vI x2]) (by show 3 ≤ 7; decide)
theorem e163 {G : MG} {d : Nat} {a0 : Nat} {x1 : Int} {x2 : Int} {x3 : Int} {h : MH} {Q : KQ} : wpC G (d + 1) 163 [vR a0, vI x1, vI x2, vI x3] h Q = wp G d 163 0 [some (vR a0), some (vI x1), some (vI x2), some (vI x3), none, none, none, none, none, none, none] [] h Q := wpC_eq (y := 163) (a := [vR a0, vI x1, vI x2, vI x3]) (by show 4 ≤ 11; decide)
theorem e164 {G : MG} {d : Nat} {a0 : Nat} {x1 : Int} {x2 : Int} {x3 : Int} {h : MH} {Q : KQ} : wpC G (d + 1) 164 [vR a0, vI x1, vI x2, vI x3] h Q = wp G d 164 0 [some (vR a0), some (vI x1), some (vI x2), some (vI x3)] [] h Q := wpC_eq (y := 164) (a := [vR a0, vI x1, vI x2, vI x3]) (by show 4 ≤ 4; decide)
theorem e165 {G : MG} {d : Nat} {a0 : Nat} {x1 : Int} {x2 : Int} {h : MH} {Q : KQ} : wpC G (d + 1) 165 [vR a0, vI x1, vI x2] h Q = wp G d 165 0 [some (vR a0), some (vI x1), some (vI x2), none] [] h Q := wpC_eq (y := 165) (a := [vR a0, vI x1, vI x2]) (by show 3 ≤ 4; decide)
theorem e166 {G : MG} {d : Nat} {a0 : Nat} {x1 : Int} {x2 : Int} {h : MH} {Q : KQ} : wpC G (d + 1) 166 [vR a0, vI x1, vI x2] h Q = wp G d 166 0 [some (vR a0), some (vI x1), some (vI x2)] [] h Q := wpC_eq (y := 166) (a := [vR a0, vI x1, vI x2]) (by show 3 ≤ 3; decide)
theorem e167 {G : MG} {d : Nat} {a0 : Nat} {x1 : Int} {x2 : Int} {h : MH} {Q : KQ} : wpC G (d + 1) 167 [vR a0, vI x1, vI x2] h Q = wp G d 167 0 [some (vR a0), some (vI x1), some (vI x2)] [] h Q := wpC_eq (y := 167) (a := [vR a0, vI x1, vI x2]) (by show 3 ≤ 3; decide)
theorem e168 {G : MG} {d : Nat} {a0 : Nat} {x1 : Int} {x2 : Int} {h : MH} {Q : KQ} : wpC G (d + 1) 168 [vR a0, vI x1, vI x2] h Q = wp G d 168 0 [some (vR a0), some (vI x1), some (vI x2)] [] h Q := wpC_eq (y := 168) (a := [vR a0, vI x1, vI x2]) (by show 3 ≤ 3; decide)
theorem e169 {G : MG} {d : Nat} {a0 : Nat} {h : MH} {Q : KQ} : wpC G (d + 1) 169 [vR a0] h Q = wp G d 169 0 [some (vR a0), none] [] h Q := wpC_eq (y := 169) (a := [vR a0]) (by show 1 ≤ 2; decide)
theorem e170 {G : MG} {d : Nat} {a0 : Nat} {x1 : Int} {h : MH} {Q : KQ} : wpC G (d + 1) 170 [vR a0, vI x1] h Q = wp G d 170 0 [some (vR a0), some (vI x1)] [] h Q := wpC_eq (y := 170) (a := [vR a0, vI x1]) (by show 2 ≤ 2; decide)
theorem e171 {G : MG} {d : Nat} {a0 : Nat} {x1 : Int} {x2 : Int} {h : MH} {Q : KQ} : wpC G (d + 1) 171 [vR a0, vI x1, vI x2] h Q = wp G d 171 0 [some (vR a0), some (vI x1), some (vI x2)] [] h Q := wpC_eq (y := 171) (a := [vR a0, vI x1, vI x2]) (by show 3 ≤ 3; decide)
theorem e172 {G : MG} {d : Nat} {a0 : Nat} {x1 : Int} {h : MH} {Q : KQ} : wpC G (d + 1) 172 [vR a0, vI x1] h Q = wp G d 172 0 [some (vR a0), some (vI x1)] [] h Q := wpC_eq (y := 172) (a := [vR a0, vI x1]) (by show 2 ≤ 2; decide)
theorem e173 {G : MG} {d : Nat} {a0 : Nat} {x1 : Int} {h : MH} {Q : KQ} : wpC G (d + 1) 173 [vR a0, vI x1] h Q = wp G d 173 0 [some (vR a0), some (vI x1), none] [] h Q := wpC_eq (y := 173) (a := [vR a0, vI x1]) (by show 2 ≤ 3; decide)
theorem e174 {G : MG} {d : Nat} {a0 : Nat} {h : MH} {Q : KQ} : wpC G (d + 1) 174 [vR a0] h Q = wp G d 174 0 [some (vR a0), none] [] h Q := wpC_eq (y := 174) (a := [vR a0]) (by show 1 ≤ 2; decide)
theorem e175 {G : MG} {d : Nat} {a0 : Nat} {h : MH} {Q : KQ} : wpC G (d + 1) 175 [vR a0] h Q = wp G d 175 0 [some (vR a0), none] [] h Q := wpC_eq (y := 175) (a := [vR a0]) (by show 1 ≤ 2; decide)
theorem e176 {G : MG} {d : Nat} {a0 : Nat} {x1 : Int} {h : MH} {Q : KQ} : wpC G (d + 1) 176 [vR a0, vI x1] h Q = wp G d 176 0 [some (vR a0), some (vI x1)] [] h Q := wpC_eq (y := 176) (a := [vR a0, vI x1]) (by show 2 ≤ 2; decide)
theorem e177 {G : MG} {d : Nat} {a0 : Nat} {x1 : Int} {h : MH} {Q : KQ} : wpC G (d + 1) 177 [vR a0, vI x1] h Q = wp G d 177 0 [some (vR a0), some (vI x1), none, none] [] h Q := wpC_eq (y := 177) (a := [vR a0, vI x1]) (by show 2 ≤ 4; decide)
theorem e178 {G : MG} {d : Nat} {a0 : Nat} {x1 : Int} {h : MH} {Q : KQ} : wpC G (d + 1) 178 [vR a0, vI x1] h Q = wp G d 178 0 [some (vR a0), some (vI x1), none, none] [] h Q := wpC_eq (y := 178) (a := [vR a0, vI x1]) (by show 2 ≤ 4; decide)
theorem e179 {G : MG} {d : Nat} {a0 : Nat} {h : MH} {Q : KQ} : wpC G (d + 1) 179 [vR a0] h Q = wp G d 179 0 [some (vR a0), none] [] h Q := wpC_eq (y := 179) (a := [vR a0]) (by show 1 ≤ 2; decide)
theorem e180 {G : MG} {d : Nat} {a0 : Nat} {x1 : Int} {x2 : Int} {h : MH} {Q : KQ} : wpC G (d + 1) 180 [vR a0, vI x1, vI x2] h Q = wp G d 180 0 [some (vR a0), some (vI x1), some (vI x2)] [] h Q := wpC_eq (y := 180) (a := [vR a0, vI x1, vI x2]) (by show 3 ≤ 3; decide)
theorem e181 {G : MG} {d : Nat} {a0 : Nat} {x1 : Int} {h : MH} {Q : KQ} : wpC G (d + 1) 181 [vR a0, vI x1] h Q = wp G d 181 0 [some (vR a0), some (vI x1)] [] h Q := wpC_eq (y := 181) (a := [vR a0, vI x1]) (by show 2 ≤ 2; decide)
theorem e182 {G : MG} {d : Nat} {a0 : Nat} {h : MH} {Q : KQ} : wpC G (d + 1) 182 [vR a0] h Q = wp G d 182 0 [some (vR a0), none, none] [] h Q := wpC_eq (y := 182) (a := [vR a0]) (by show 1 ≤ 3; decide)
theorem e183 {G : MG} {d : Nat} {a0 : Nat} {h : MH} {Q : KQ} : wpC G (d + 1) 183 [vR a0] h Q = wp G d 183 0 [some (vR a0), none, none] [] h Q := wpC_eq (y := 183) (a := [vR a0]) (by show 1 ≤ 3; decide)
theorem e184 {G : MG} {d : Nat} {a0 : Nat} {h : MH} {Q : KQ} : wpC G (d + 1) 184 [vR a0] h Q = wp G d 184 0 [some (vR a0), none, none] [] h Q := wpC_eq (y := 184) (a := [vR a0]) (by show 1 ≤ 3; decide)
theorem e185 {G : MG} {d : Nat} {a0 : Nat} {x1 : Int} {h : MH} {Q : KQ} : wpC G (d + 1) 185 [vR a0, vI x1] h Q = wp G d 185 0 [some (vR a0), some (vI x1), none] [] h Q := wpC_eq (y := 185) (a := [vR a0, vI x1]) (by show 2 ≤ 3; decide)
theorem e186 {G : MG} {d : Nat} {a0 : Nat} {x1 : Int} {h : MH} {Q : KQ} : wpC G (d + 1) 186 [vR a0, vI x1] h Q = wp G d 186 0 [some (vR a0), some (vI x1), none] [] h Q := wpC_eq (y := 186) (a := [vR a0, vI x1]) (by show 2 ≤ 3; decide)
theorem e187 {G : MG} {d : Nat} {a0 : Nat} {x1 : Int} {x2 : Int} {h : MH} {Q : KQ} : wpC G (d + 1) 187 [vR a0, vI x1, vI x2] h Q = wp G d 187 0 [some (vR a0), some (vI x1), some (vI x2), none] [] h Q := wpC_eq (y := 187) (a := [vR a0, vI x1, vI x2]) (by show 3 ≤ 4; decide)
theorem e188 {G : MG} {d : Nat} {a0 : Nat} {x1 : Int} {x2 : Int} {x3 : Int} {h : MH} {Q : KQ} : wpC G (d + 1) 188 [vR a0, vI x1, vI x2, vI x3] h Q = wp G d 188 0 [some (vR a0), some (vI x1), some (vI x2), some (vI x3)] [] h Q := wpC_eq (y := 188) (a := [vR a0, vI x1, vI x2, vI x3]) (by show 4 ≤ 4; decide)
theorem e189 {G : MG} {d : Nat} {a0 : Nat} {x1 : Int} {x2 : Int} {h : MH} {Q : KQ} : wpC G (d + 1) 189 [vR a0, vI x1, vI x2] h Q = wp G d 189 0 [some (vR a0), some (vI x1), some (vI x2), none] [] h Q := wpC_eq (y := 189) (a := [vR a0, vI x1, vI x2]) (by show 3 ≤ 4; decide)
theorem e190 {G : MG} {d : Nat} {a0 : Nat} {x1 : Int} {h : MH} {Q : KQ} : wpC G (d + 1) 190 [vR a0, vI x1] h Q = wp G d 190 0 [some (vR a0), some (vI x1), none] [] h Q := wpC_eq (y := 190) (a := [vR a0, vI x1]) (by show 2 ≤ 3; decide)
theorem e191 {G : MG} {d : Nat} {a0 : Nat} {x1 : Int} {x2 : Int} {h : MH} {Q : KQ} : wpC G (d + 1) 191 [vR a0, vI x1, vI x2] h Q = wp G d 191 0 [some (vR a0), some (vI x1), some (vI x2)] [] h Q := wpC_eq (y := 191) (a := [vR a0, vI x1, vI x2]) (by show 3 ≤ 3; decide)
theorem e192 {G : MG} {d : Nat} {a0 : Nat} {x1 : Int} {x2 : Int} {x3 : Int} {x4 : Int} {h : MH} {Q : KQ} : wpC G (d + 1) 192 [vR a0, vI x1, vI x2, vI x3, vI x4] h Q = wp G d 192 0 [some (vR a0), some (vI x1), some (vI x2), some (vI x3), some (vI x4), none, none, none] [] h Q := wpC_eq (y := 192) (a := [vR a0, vI x1, vI x2, vI x3, vI x4]) (by show 5 ≤ 8; decide)
theorem e193 {G : MG} {d : Nat} {a0 : Nat} {x1 : Int} {x2 : Int} {h : MH} {Q : KQ} : wpC G (d + 1) 193 [vR a0, vI x1, vI x2] h Q = wp G d 193 0 [some (vR a0), some (vI x1), some (vI x2), none, none] [] h Q := wpC_eq (y := 193) (a := [vR a0, vI x1, vI x2]) (by show 3 ≤ 5; decide)
theorem e194 {G : MG} {d : Nat} {a0 : Nat} {x1 : Int} {h : MH} {Q : KQ} : wpC G (d + 1) 194 [vR a0, vI x1] h Q = wp G d 194 0 [some (vR a0), some (vI x1), none, none, none] [] h Q := wpC_eq (y := 194) (a := [vR a0, vI x1]) (by show 2 ≤ 5; decide)
theorem e195 {G : MG} {d : Nat} {a0 : Nat} {x1 : Int} {h : MH} {Q : KQ} : wpC G (d + 1) 195 [vR a0, vI x1] h Q = wp G d 195 0 [some (vR a0), some (vI x1), none] [] h Q := wpC_eq (y := 195) (a := [vR a0, vI x1]) (by show 2 ≤ 3; decide)
theorem e196 {G : MG} {d : Nat} {a0 : Nat} {x1 : Int} {h : MH} {Q : KQ} : wpC G (d + 1) 196 [vR a0, vI x1] h Q = wp G d 196 0 [some (vR a0), some (vI x1), none, none, none] [] h Q := wpC_eq (y := 196) (a := [vR a0, vI x1]) (by show 2 ≤ 5; decide)
theorem e197 {G : MG} {d : Nat} {a0 : Nat} {x1 : Int} {h : MH} {Q : KQ} : wpC G (d + 1) 197 [vR a0, vI x1] h Q = wp G d 197 0 [some (vR a0), some (vI x1), none, none] [] h Q := wpC_eq (y := 197) (a := [vR a0, vI x1]) (by show 2 ≤ 4; decide)
theorem e198 {G : MG} {d : Nat} {a0 : Nat} {x1 : Int} {x2 : Int} {h : MH} {Q : KQ} : wpC G (d + 1) 198 [vR a0, vI x1, vI x2] h Q = wp G d 198 0 [some (vR a0), some (vI x1), some (vI x2)] [] h Q := wpC_eq (y := 198) (a := [vR a0, vI x1, vI x2]) (by show 3 ≤ 3; decide)
theorem e199 {G : MG} {d : Nat} {a0 : Nat} {x1 : Int} {x2 : Int} {h : MH} {Q : KQ} : wpC G (d + 1) 199 [vR a0, vI x1, vI x2] h Q = wp G d 199 0 [some (vR a0), some (vI x1), some (vI x2)] [] h Q := wpC_eq (y := 199) (a := [vR a0, vI x1, vI x2]) (by show 3 ≤ 3; decide)
theorem e200 {G : MG} {d : Nat} {a0 : Nat} {x1 : Int} {x2 : Int} {x3 : Int} {x4 : Int} {h : MH} {Q : KQ} : wpC G (d + 1) 200 [vR a0, vI x1, vI x2, vI x3, vI x4] h Q = wp G d 200 0 [some (vR a0), some (vI x1), some (vI x2), some (vI x3), some (vI x4), none, none, none, none, none] [] h Q := wpC_eq (y := 200) (a := [vR a0, vI x1, vI x2, vI x3, vI x4]) (by show 5 ≤ 10; decide)
theorem e201 {G : MG} {d : Nat} {a0 : Nat} {x1 : Int} {h : MH} {Q : KQ} : wpC G (d + 1) 201 [vR a0, vI x1] h Q = wp G d 201 0 [some (vR a0), some (vI x1), none, none] [] h Q := wpC_eq (y := 201) (a := [vR a0, vI x1]) (by show 2 ≤ 4; decide)
theorem e202 {G : MG} {d : Nat} {a0 : Nat} {x1 : Int} {x2 : Int} {h : MH} {Q : KQ} : wpC G (d + 1) 202 [vR a0, vI x1, vI x2] h Q = wp G d 202 0 [some (vR a0), some (vI x1), some (vI x2)] [] h Q := wpC_eq (y := 202) (a := [vR a0, vI x1, vI x2]) (by show 3 ≤ 3; decide)
theorem e203 {G : MG} {d : Nat} {a0 : Nat} {h : MH} {Q : KQ} : wpC G (d + 1) 203 [vR a0] h Q = wp G d 203 0 [some (vR a0), none, none] [] h Q := wpC_eq (y := 203) (a := [vR a0]) (by show 1 ≤ 3; decide)
theorem e204 {G : MG} {d : Nat} {a0 : Nat} {x1 : Int} {x2 : Int} {x3 : Int} {h : MH} {Q : KQ} : wpC G (d + 1) 204 [vR a0, vI x1, vI x2, vI x3] h Q = wp G d 204 0 [some (vR a0), some (vI x1), some (vI x2), some (vI x3), none, none, none] [] h Q := wpC_eq (y := 204) (a := [vR a0, vI x1, vI x2, vI x3]) (by show 4 ≤ 7; decide)
theorem e205 {G : MG} {d : Nat} {x1 : Int} {x2 : Int} {x3 : Int} {h : MH} {Q : KQ} : wpC G (d + 1) 205 [vL x1, vL x2, vI x3] h Q = wp G d 205 0 [some (vL x1), none, some (vL x2), none, some (vI x3), none, none, none, none, none, none] [] h Q := wpC_eq (y := 205) (a := [vL x1, vL x2, vI x3]) (by show 5 ≤ 11; decide)
theorem e206 {G : MG} {d : Nat} {a0 : Nat} {x1 : Int} {h : MH} {Q : KQ} : wpC G (d + 1) 206 [vR a0, vI x1] h Q = wp G d 206 0 [some (vR a0), some (vI x1), none, none, none] [] h Q := wpC_eq (y := 206) (a := [vR a0, vI x1]) (by show 2 ≤ 5; decide)
theorem e207 {G : MG} {d : Nat} {a0 : Nat} {x1 : Int} {x2 : Int} {h : MH} {Q : KQ} : wpC G (d + 1) 207 [vR a0, vI x1, vI x2] h Q = wp G d 207 0 [some (vR a0), some (vI x1), some (vI x2)] [] h Q := wpC_eq (y := 207) (a := [vR a0, vI x1, vI x2]) (by show 3 ≤ 3; decide)
theorem e208 {G : MG} {d : Nat} {a0 : Nat} {x1 : Int} {h : MH} {Q : KQ} : wpC G (d + 1) 208 [vR a0, vI x1] h Q = wp G d 208 0 [some (vR a0), some (vI x1), none] [] h Q := wpC_eq (y := 208) (a := [vR a0, vI x1]) (by show 2 ≤ 3; decide)
theorem e209 {G : MG} {d : Nat} {a0 : Nat} {x1 : Int} {x2 : Int} {h : MH} {Q : KQ} : wpC G (d + 1) 209 [vR a0, vI x1, vI x2] h Q = wp G d 209 0 [some (vR a0), some (vI x1), some (vI x2)] [] h Q := wpC_eq (y := 209) (a := [vR a0, vI x1, vI x2]) (by show 3 ≤ 3; decide)
theorem e210 {G : MG} {d : Nat} {a0 : Nat} {x1 : Int} {x2 : Int} {h : MH} {Q : KQ} : wpC G (d + 1) 210 [vR a0, vI x1, vI x2] h Q = wp G d 210 0 [some (vR a0), some (vI x1), some (vI x2)] [] h Q := wpC_eq (y := 210) (a := [vR a0, vI x1, vI x2]) (by show 3 ≤ 3; decide)
theorem e211 {G : MG} {d : Nat} {a0 : Nat} {h : MH} {Q : KQ} : wpC G (d + 1) 211 [vR a0] h Q = wp G d 211 0 [some (vR a0), none] [] h Q := wpC_eq (y := 211) (a := [vR a0]) (by show 1 ≤ 2; decide)
theorem e212 {G : MG} {d : Nat} {a0 : Nat} {x1 : Int} {x2 : Int} {x3 : Int} {h : MH} {Q : KQ} : wpC G (d + 1) 212 [vR a0, vI x1, vI x2, vI x3] h Q = wp G d 212 0 [some (vR a0), some (vI x1), some (vI x2), some (vI x3)] [] h Q := wpC_eq (y := 212) (a := [vR a0, vI x1, vI x2, vI x3]) (by show 4 ≤ 4; decide)
theorem e213 {G : MG} {d : Nat} {a0 : Nat} {x1 : Int} {h : MH} {Q : KQ} : wpC G (d + 1) 213 [vR a0, vI x1] h Q = wp G d 213 0 [some (vR a0), some (vI x1)] [] h Q := wpC_eq (y := 213) (a := [vR a0, vI x1]) (by show 2 ≤ 2; decide)
theorem e214 {G : MG} {d : Nat} {x1 : Int} {x2 : Int} {h : MH} {Q : KQ} : wpC G (d + 1) 214 [vI x1, vI x2] h Q = wp G d 214 0 [some (vI x1), some (vI x2)] [] h Q := wpC_eq (y := 214) (a := [vI x1, vI x2]) (by show 2 ≤ 2; decide)
theorem e215 {G : MG} {d : Nat} {a0 : Nat} {x1 : Int} {h : MH} {Q : KQ} : wpC G (d + 1) 215 [vR a0, vI x1] h Q = wp G d 215 0 [some (vR a0), some (vI x1)] [] h Q := wpC_eq (y := 215) (a := [vR a0, vI x1]) (by show 2 ≤ 2; decide)
theorem e216 {G : MG} {d : Nat} {a0 : Nat} {x1 : Int} {h : MH} {Q : KQ} : wpC G (d + 1) 216 [vR a0, vI x1] h Q = wp G d 216 0 [some (vR a0), some (vI x1)] [] h Q := wpC_eq (y := 216) (a := [vR a0, vI x1]) (by show 2 ≤ 2; decide)
theorem e217 {G : MG} {d : Nat} {a0 : Nat} {x1 : Int} {h : MH} {Q : KQ} : wpC G (d + 1) 217 [vR a0, vI x1] h Q = wp G d 217 0 [some (vR a0), some (vI x1)] [] h Q := wpC_eq (y := 217) (a := [vR a0, vI x1]) (by show 2 ≤ 2; decide)
theorem e218 {G : MG} {d : Nat} {a0 : Nat} {x1 : Int} {h : MH} {Q : KQ} : wpC G (d + 1) 218 [vR a0, vI x1] h Q = wp G d 218 0 [some (vR a0), some (vI x1)] [] h Q := wpC_eq (y := 218) (a := [vR a0, vI x1]) (by show 2 ≤ 2; decide)
theorem e219 {G : MG} {d : Nat} {a0 : Nat} {x1 : Int} {h : MH} {Q : KQ} : wpC G (d + 1) 219 [vR a0, vI x1] h Q = wp G d 219 0 [some (vR a0), some (vI x1), none] [] h Q := wpC_eq (y := 219) (a := [vR a0, vI x1]) (by show 2 ≤ 3; decide)
theorem e220 {G : MG} {d : Nat} {a0 : Nat} {x1 : Int} {h : MH} {Q : KQ} : wpC G (d + 1) 220 [vR a0, vI x1] h Q = wp G d 220 0 [some (vR a0), some (vI x1)] [] h Q := wpC_eq (y := 220) (a := [vR a0, vI x1]) (by show 2 ≤ 2; decide)
theorem e221 {G : MG} {d : Nat} {a0 : Nat} {x1 : Int} {h : MH} {Q : KQ} : wpC G (d + 1) 221 [vR a0, vI x1] h Q = wp G d 221 0 [some (vR a0), some (vI x1)] [] h Q := wpC_eq (y := 221) (a := [vR a0, vI x1]) (by show 2 ≤ 2; decide)
theorem e222 {G : MG} {d : Nat} {a0 : Nat} {x1 : Int} {x2 : Int} {h : MH} {Q : KQ} : wpC G (d + 1) 222 [vR a0, vI x1, vI x2] h Q = wp G d 222 0 [some (vR a0), some (vI x1), some (vI x2)] [] h Q := wpC_eq (y := 222) (a := [vR a0, vI x1, vI x2]) (by show 3 ≤ 3; decide)
theorem e223 {G : MG} {d : Nat} {a0 : Nat} {h : MH} {Q : KQ} : wpC G (d + 1) 223 [vR a0] h Q = wp G d 223 0 [some (vR a0), none] [] h Q := wpC_eq (y := 223) (a := [vR a0]) (by show 1 ≤ 2; decide)
theorem e224 {G : MG} {d : Nat} {a0 : Nat} {h : MH} {Q : KQ} : wpC G (d + 1) 224 [vR a0] h Q = wp G d 224 0 [some (vR a0), none] [] h Q := wpC_eq (y := 224) (a := [vR a0]) (by show 1 ≤ 2; decide)
theorem e225 {G : MG} {d : Nat} {a0 : Nat} {x1 : Int} {h : MH} {Q : KQ} : wpC G (d + 1) 225 [vR a0, vI x1] h Q = wp G d 225 0 [some (vR a0), some (vI x1)] [] h Q := wpC_eq (y := 225) (a := [vR a0, vI x1]) (by show 2 ≤ 2; decide)
theorem e226 {G : MG} {d : Nat} {x1 : Option Nat} {h : MH} {Q : KQ} : wpC G (d + 1) 226 [vO x1] h Q = wp G d 226 0 [some (vO x1), none, none, none] [] h Q := wpC_eq (y := 226) (a := [vO x1]) (by show 1 ≤ 4; decide)
theorem e227 {G : MG} {d : Nat} {a0 : Nat} {h : MH} {Q : KQ} : wpC G (d + 1) 227 [vR a0] h Q = wp G d 227 0 [some (vR a0)] [] h Q := wpC_eq (y := 227) (a := [vR a0]) (by show 1 ≤ 1; decide)
theorem e228 {G : MG} {d : Nat} {a0 : Nat} {h : MH} {Q : KQ} : wpC G (d + 1) 228 [vR a0] h Q = wp G d 228 0 [some (vR a0)] [] h Q := wpC_eq (y := 228) (a := [vR a0]) (by show 1 ≤ 1; decide)
theorem e229 {G : MG} {d : Nat} {a0 : Nat} {x1 : Option Nat} {h : MH} {Q : KQ} : wpC G (d + 1) 229 [vR a0, vO x1] h Q = wp G d 229 0 [some (vR a0), some (vO x1)] [] h Q := wpC_eq (y := 229) (a := [vR a0, vO x1]) (by show 2 ≤ 2; decide)
theorem e230 {G : MG} {d : Nat} {a0 : Nat} {x1 : Option Nat} {x2 : Option Nat} {x3 : Int} {h : MH} {Q : KQ} : wpC G (d + 1) 230 [vR a0, vO x1, vO x2, vI x3] h Q = wp G d 230 0 [some (vR a0), some (vO x1), some (vO x2), some (vI x3)] [] h Q := wpC_eq (y := 230) (a := [vR a0, vO x1, vO x2, vI x3]) (by show 4 ≤ 4; decide)
theorem e231 {G : MG} {d : Nat} {a0 : Nat} {h : MH} {Q : KQ} : wpC G (d + 1) 231 [vR a0] h Q = wp G d 231 0 [some (vR a0)] [] h Q := wpC_eq (y := 231) (a := [vR a0]) (by show 1 ≤ 1; decide)
theorem e232 {G : MG} {d : Nat} {a0 : Nat} {x1 : Int} {h : MH} {Q : KQ} : wpC G (d + 1) 232 [vR a0, vI x1] h Q = wp G d 232 0 [some (vR a0), some (vI x1), none, none] [] h Q := wpC_eq (y := 232) (a := [vR a0, vI x1]) (by show 2 ≤ 4; decide)
theorem e233 {G : MG} {d : Nat} {a0 : Nat} {x1 : Int} {h : MH} {Q : KQ} : wpC G (d + 1) 233 [vR a0, vI x1] h Q = wp G d 233 0 [some (vR a0), some (vI x1)] [] h Q := wpC_eq (y := 233) (a := [vR a0, vI x1]) (by show 2 ≤ 2; decide)
theorem e234 {G : MG} {d : Nat} {a0 : Nat} {x1 : Int} {h : MH} {Q : KQ} : wpC G (d + 1) 234 [vR a0, vI x1] h Q = wp G d 234 0 [some (vR a0), some (vI x1)] [] h Q := wpC_eq (y := 234) (a := [vR a0, vI x1]) (by show 2 ≤ 2; decide)
theorem e235 {G : MG} {d : Nat} {a0 : Nat} {h : MH} {Q : KQ} : wpC G (d + 1) 235 [vR a0] h Q = wp G d 235 0 [some (vR a0)] [] h Q := wpC_eq (y := 235) (a := [vR a0]) (by show 1 ≤ 1; decide)
theorem e236 {G : MG} {d : Nat} {a0 : Nat} {h : MH} {Q : KQ} : wpC G (d + 1) 236 [vR a0] h Q = wp G d 236 0 [some (vR a0), none, none, none] [] h Q := wpC_eq (y := 236) (a := [vR a0]) (by show 1 ≤ 4; decide)
theorem e237 {G : MG} {d : Nat} {a0 : Nat} {h : MH} {Q : KQ} : wpC G (d + 1) 237 [vR a0] h Q = wp G d 237 0 [some (vR a0)] [] h Q := wpC_eq (y := 237) (a := [vR a0]) (by show 1 ≤ 1; decide)
theorem e238 {G : MG} {d : Nat} {a0 : Nat} {h : MH} {Q : KQ} : wpC G (d + 1) 238 [vR a0] h Q = wp G d 238 0 [some (vR a0)] [] h Q := wpC_eq (y := 238) (a := [vR a0]) (by show 1 ≤ 1; decide)
theorem e239 {G : MG} {d : Nat} {x1 : Int} {x2 : Int} {h : MH} {Q : KQ} : wpC G (d + 1) 239 [vI x1, vI x2] h Q = wp G d 239 0 [some (vI x1), some (vI x2)] [] h Q := wpC_eq (y := 239) (a := [vI x1, vI x2]) (by show 2 ≤ 2; decide)
theorem e240 {G : MG} {d : Nat} {x1 : Int} {x2 : Int} {h : MH} {Q : KQ} : wpC G (d + 1) 240 [vI x1, vI x2] h Q = wp G d 240 0 [some (vI x1), some (vI x2)] [] h Q := wpC_eq (y := 240) (a := [vI x1, vI x2]) (by show 2 ≤ 2; decide)
theorem e241 {G : MG} {d : Nat} {x1 : Int} {x2 : Int} {h : MH} {Q : KQ} : wpC G (d + 1) 241 [vI x1, vI x2] h Q = wp G d 241 0 [some (vI x1), some (vI x2), none] [] h Q := wpC_eq (y := 241) (a := [vI x1, vI x2]) (by show 2 ≤ 3; decide)
theorem e242 {G : MG} {d : Nat} {x1 : Option Nat} {x2 : Int} {h : MH} {Q : KQ} : wpC G (d + 1) 242 [vO x1, vI x2] h Q = wp G d 242 0 [some (vO x1), some (vI x2), none, none] [] h Q := wpC_eq (y := 242) (a := [vO x1, vI x2]) (by show 2 ≤ 4; decide)
theorem e243 {G : MG} {d : Nat} {x1 : Option Nat} {x2 : Int} {h : MH} {Q : KQ} : wpC G (d + 1) 243 [vO x1, vI x2] h Q = wp G d 243 0 [some (vO x1), some (vI x2), none] [] h Q := wpC_eq (y := 243) (a := [vO x1, vI x2]) (by show 2 ≤ 3; decide)
theorem e244 {G : MG} {d : Nat} {a0 : Nat} {h : MH} {Q : KQ} : wpC G (d + 1) 244 [vR a0] h Q = wp G d 244 0 [some (vR a0)] [] h Q := wpC_eq (y := 244) (a := [vR a0]) (by show 1 ≤ 1; decide)
theorem e245 {G : MG} {d : Nat} {a0 : Nat} {h : MH} {Q : KQ} : wpC G (d + 1) 245 [vR a0] h Q = wp G d 245 0 [some (vR a0)] [] h Q := wpC_eq (y := 245) (a := [vR a0]) (by show 1 ≤ 1; decide)
theorem e246 {G : MG} {d : Nat} {a0 : Nat} {x1 : Int} {h : MH} {Q : KQ} : wpC G (d + 1) 246 [vR a0, vI x1] h Q = wp G d 246 0 [some (vR a0), some (vI x1)] [] h Q := wpC_eq (y := 246) (a := [vR a0, vI x1]) (by show 2 ≤ 2; decide)
theorem e247 {G : MG} {d : Nat} {a0 : Nat} {h : MH} {Q : KQ} : wpC G (d + 1) 247 [vR a0] h Q = wp G d 247 0 [some (vR a0)] [] h Q := wpC_eq (y := 247) (a := [vR a0]) (by show 1 ≤ 1; decide)
theorem e248 {G : MG} {d : Nat} {x1 : Int} {x2 : Int} {h : MH} {Q : KQ} : wpC G (d + 1) 248 [vI x1, vI x2] h Q = wp G d 248 0 [some (vI x1), some (vI x2)] [] h Q := wpC_eq (y := 248) (a := [vI x1, vI x2]) (by show 2 ≤ 2; decide)
theorem e249 {G : MG} {d : Nat} {a0 : Nat} {x1 : Int} {h : MH} {Q : KQ} : wpC G (d + 1) 249 [vR a0, vI x1] h Q = wp G d 249 0 [some (vR a0), some (vI x1)] [] h Q := wpC_eq (y := 249) (a := [vR a0, vI x1]) (by show 2 ≤ 2; decide)
theorem e250 {G : MG} {d : Nat} {a0 : Nat} {x1 : Int} {x2 : Int} {h : MH} {Q : KQ} : wpC G (d + 1) 250 [vR a0, vI x1, vI x2] h Q = wp G d 250 0 [some (vR a0), some (vI x1), some (vI x2)] [] h Q := wpC_eq (y := 250) (a := [vR a0, vI x1, vI x2]) (by show 3 ≤ 3; decide)
theorem e251 {G : MG} {d : Nat} {x1 : Int} {x2 : Int} {x3 : Int} {h : MH} {Q : KQ} : wpC G (d + 1) 251 [vI x1, vI x2, vI x3] h Q = wp G d 251 0 [some (vI x1), some (vI x2), some (vI x3)] [] h Q := wpC_eq (y := 251) (a := [vI x1, vI x2, vI x3]) (by show 3 ≤ 3; decide)
theorem e252 {G : MG} {d : Nat} {x1 : Option Nat} {x2 : Int} {h : MH} {Q : KQ} : wpC G (d + 1) 252 [vO x1, vI x2] h Q = wp G d 252 0 [some (vO x1), some (vI x2)] [] h Q := wpC_eq (y := 252) (a := [vO x1, vI x2]) (by show 2 ≤ 2; decide)
theorem e253 {G : MG} {d : Nat} {x1 : Option Nat} {x2 : Int} {x3 : Int} {x4 : Int} {h : MH} {Q : KQ} : wpC G (d + 1) 253 [vO x1, vI x2, vI x3, vI x4] h Q = wp G d 253 0 [some (vO x1), some (vI x2), some (vI x3), some (vI x4)] [] h Q := wpC_eq (y := 253) (a := [vO x1, vI x2, vI x3, vI x4]) (by show 4 ≤ 4; decide)
theorem e254 {G : MG} {d : Nat} {x1 : Int} {h : MH} {Q : KQ} : wpC G (d + 1) 254 [vI x1] h Q = wp G d 254 0 [some (vI x1)] [] h Q := wpC_eq (y := 254) (a := [vI x1]) (by show 1 ≤ 1; decide)
theorem e255 {G : MG} {d : Nat} {x1 : Option Nat} {x2 : Int} {x3 : Int} {x4 : Int} {h : MH} {Q : KQ} : wpC G (d + 1) 255 [vO x1, vI x2, vI x3, vI x4] h Q = wp G d 255 0 [some (vO x1), some (vI x2), some (vI x3), some (vI x4), none, none] [] h Q := wpC_eq (y := 255) (a := [vO x1, vI x2, vI x3, vI x4]) (by show 4 ≤ 6; decide)
theorem e256 {G : MG} {d : Nat} {x1 : Int} {x2 : Int} {x3 : Option Nat} {h : MH} {Q : KQ} : wpC G (d + 1) 256 [vI x1, vI x2, vO x3] h Q = wp G d 256 0 [some (vI x1), some (vI x2), some (vO x3)] [] h Q := wpC_eq (y := 256) (a := [vI x1, vI x2, vO x3]) (by show 3 ≤ 3; decide)
theorem e257 {G : MG} {d : Nat} {x1 : Int} {x2 : Int} {x3 : Int} {x4 : Option Nat} {h : MH} {Q : KQ} : wpC G (d + 1) 257 [vI x1, vI x2, vI x3, vO x4] h Q = wp G d 257 0 [some (vI x1), some (vI x2), some (vI x3), some (vO x4)] [] h Q := wpC_eq (y := 257) (a := [vI x1, vI x2, vI x3, vO x4]) (by show 4 ≤ 4; decide)
theorem e258 {G : MG} {d : Nat} {x1 : Int} {x2 : Int} {h : MH} {Q : KQ} : wpC G (d + 1) 258 [vI x1, vI x2] h Q = wp G d 258 0 [some (vI x1), some (vI x2)] [] h Q := wpC_eq (y := 258) (a := [vI x1, vI x2]) (by show 2 ≤ 2; decide)
theorem e259 {G : MG} {d : Nat} {x1 : Int} {h : MH} {Q : KQ} : wpC G (d + 1) 259 [vI x1] h Q = wp G d 259 0 [some (vI x1)] [] h Q := wpC_eq (y := 259) (a := [vI x1]) (by show 1 ≤ 1; decide)
theorem gx0_0_0 {f0 : V} {f1 : V} {f2 : V} {K : V → Prop} : xGet 0 0 (some (cObj 0 [f0, f1, f2])) K = K f0 := u_i0
theorem pgx0_0_0 {f0 : V} {f1 : V} {f2 : V} {v : V} {K : MC → Prop} : xPut 0 0 v (some (cObj 0 [f0, f1, f2])) K = K (cObj 0 [v, f1, f2]) := propext ⟨fun z => z.2.2.2, fun z => ⟨rfl, (by decide), (by show 0 < 3; decide), z⟩⟩
theorem gx0_0_1 {f0 : V} {f1 : V} {f2 : V} {K : V → Prop} : xGet 1 0 (some (cObj 0 [f0, f1, f2])) K = K f1 := u_i0
theorem pgx0_0_1 {f0 : V} {f1 : V} {f2 : V} {v : V} {K : MC → Prop} : xPut 1 0 v (some (cObj 0 [f0, f1, f2])) K = K (cObj 0 [f0, v, f2]) := propext ⟨fun z => z.2.2.2, fun z => ⟨rfl, (by decide), (by show 1 < 3; decide), z⟩⟩
theorem gx0_0_2 {f0 : V} {f1 : V} {f2 : V} {K : V → Prop} : xGet 2 0 (some (cObj 0 [f0, f1, f2])) K = K f2 := u_i0
theorem pgx0_0_2 {f0 : V} {f1 : V} {f2 : V} {v : V} {K : MC → Prop} : xPut 2 0 v (some (cObj 0 [f0, f1, f2])) K = K (cObj 0 [f0, f1, v]) := propext ⟨fun z => z.2.2.2, fun z => ⟨rfl, (by decide), (by show 2 < 3; decide), z⟩⟩
def GX0 := And.intro @gx0_0_0 (And.intro @gx0_0_1 (@gx0_0_2))
def PX0 := And.intro @pgx0_0_0 (And.intro @pgx0_0_1 (@pgx0_0_2))
theorem gx1_1_0 {f0 : V} {f1 : V} {f2 : V} {f3 : V} {K : V → Prop} : xGet 0 1 (some (cObj 1 [f0, f1, f2, f3])) K = K f0 := u_i0
theorem pgx1_1_0 {f0 : V} {f1 : V} {f2 : V} {f3 : V} {v : V} {K : MC → Prop} : xPut 0 1 v (some (cObj 1 [f0, f1, f2, f3])) K = K (cObj 1 [v, f1, f2, f3]) := propext ⟨fun z => z.2.2.2, fun z => ⟨rfl, (by decide), (by show 0 < 4; decide), z⟩⟩
theorem gx1_1_1 {f0 : V} {f1 : V} {f2 : V} {f3 : V} {K : V → Prop} : xGet 1 1 (some (cObj 1 [f0, f1, f2, f3])) K = K f1 := u_i0
theorem pgx1_1_1 {f0 : V} {f1 : V} {f2 : V} {f3 : V} {v : V} {K : MC → Prop} : xPut 1 1 v (some (cObj 1 [f0, f1, f2, f3])) K = K (cObj 1 [f0, v, f2, f3]) := propext ⟨fun z => z.2.2.2, fun z => ⟨rfl, (by decide), (by show 1 < 4; decide), z⟩⟩
theorem gx1_1_2 {f0 : V} {f1 : V} {f2 : V} {f3 : V} {K : V → Prop} : xGet 2 1 (some (cObj 1 [f0, f1, f2, f3])) K = K f2 := u_i0
theorem pgx1_1_2 {f0 : V} {f1 : V} {f2 : V} {f3 : V} {v : V} {K : MC → Prop} : xPut 2 1 v (some (cObj 1 [f0, f1, f2, f3])) K = K (cObj 1 [f0, f1, v, f3]) := propext ⟨fun z => z.2.2.2, fun z => ⟨rfl, (by decide), (by show 2 < 4; decide), z⟩⟩
theorem gx1_1_3 {f0 : V} {f1 : V} {f2 : V} {f3 : V} {K : V → Prop} : xGet 3 1 (some (cObj 1 [f0, f1, f2, f3])) K = K f3 := u_i0
theorem pgx1_1_3 {f0 : V} {f1 : V} {f2 : V} {f3 : V} {v : V} {K : MC → Prop} : xPut 3 1 v (some (cObj 1 [f0, f1, f2, f3])) K = K (cObj 1 [f0, f1, f2, v]) := propext ⟨fun z => z.2.2.2, fun z => ⟨rfl, (by decide), (by show 3 < 4; decide), z⟩⟩
def GX1 := And.intro @gx1_1_0 (And.intro @gx1_1_1 (And.intro @gx1_1_2 (@gx1_1_3)))
def PX1 := And.intro @pgx1_1_0 (And.intro @pgx1_1_1 (And.intro @pgx1_1_2 (@pgx1_1_3)))
theorem gx2_2_0 {f0 : V} {f1 : V} {f2 : V} {K : V → Prop} : xGet 0 2 (some (cObj 2 [f0, f1, f2])) K = K f0 := u_i0
theorem pgx2_2_0 {f0 : V} {f1 : V} {f2 : V} {v : V} {K : MC → Prop} : xPut 0 2 v (some (cObj 2 [f0, f1, f2])) K = K (cObj 2 [v, f1, f2]) := propext ⟨fun z => z.2.2.2, fun z => ⟨rfl, (by decide), (by show 0 < 3; decide), z⟩⟩
theorem gx2_2_1 {f0 : V} {f1 : V} {f2 : V} {K : V → Prop} : xGet 1 2 (some (cObj 2 [f0, f1, f2])) K = K f1 := u_i0
theorem pgx2_2_1 {f0 : V} {f1 : V} {f2 : V} {v : V} {K : MC → Prop} : xPut 1 2 v (some (cObj 2 [f0, f1, f2])) K = K (cObj 2 [f0, v, f2]) := propext ⟨fun z => z.2.2.2, fun z => ⟨rfl, (by decide), (by show 1 < 3; decide), z⟩⟩
theorem gx2_2_2 {f0 : V} {f1 : V} {f2 : V} {K : V → Prop} : xGet 2 2 (some (cObj 2 [f0, f1, f2])) K = K f2 := u_i0
theorem pgx2_2_2 {f0 : V} {f1 : V} {f2 : V} {v : V} {K : MC → Prop} : xPut 2 2 v (some (cObj 2 [f0, f1, f2])) K = K (cObj 2 [f0, f1, v]) := propext ⟨fun z => z.2.2.2, fun z => ⟨rfl, (by decide), (by show 2 < 3; decide), z⟩⟩
theorem gx2_50_0 {f0 : V} {f1 : V} {f2 : V} {K : V → Prop} : xGet 0 50 (some (cObj 2 [f0, f1, f2])) K = K f0 := u_i0
theorem pgx2_50_0 {f0 : V} {f1 : V} {f2 : V} {v : V} {K : MC → Prop} : xPut 0 50 v (some (cObj 2 [f0, f1, f2])) K = K (cObj 2 [v, f1, f2]) := propext ⟨fun z => z.2.2.2, fun z => ⟨rfl, (by decide), (by show 0 < 3; decide), z⟩⟩
theorem gx2_50_1 {f0 : V} {f1 : V} {f2 : V} {K : V → Prop} : xGet 1 50 (some (cObj 2 [f0, f1, f2])) K = K f1 := u_i0
theorem pgx2_50_1 {f0 : V} {f1 : V} {f2 : V} {v : V} {K : MC → Prop} : xPut 1 50 v (some (cObj 2 [f0, f1, f2])) K = K (cObj 2 [f0, v, f2]) := propext ⟨fun z => z.2.2.2, fun z => ⟨rfl, (by decide), (by show 1 < 3; decide), z⟩⟩
theorem gx2_50_2 {f0 : V} {f1 : V} {f2 : V} {K : V → Prop} : xGet 2 50 (some (cObj 2 [f0, f1, f2])) K = K f2 := u_i0
theorem pgx2_50_2 {f0 : V} {f1 : V} {f2 : V} {v : V} {K : MC → Prop} : xPut 2 50 v (some (cObj 2 [f0, f1, f2])) K = K (cObj 2 [f0, f1, v]) := propext ⟨fun z => z.2.2.2, fun z => ⟨rfl, (by decide), (by show 2 < 3; decide), z⟩⟩
def GX2 := And.intro @gx2_2_0 (And.intro @gx2_2_1 (And.intro @gx2_2_2 (And.intro @gx2_50_0 (And.intro @gx2_50_1 (@gx2_50_2)))))
def PX2 := And.intro @pgx2_2_0 (And.intro @pgx2_2_1 (And.intro @pgx2_2_2 (And.intro @pgx2_50_0 (And.intro @pgx2_50_1 (@pgx2_50_2)))))
theorem gx3_3_0 {f0 : V} {f1 : V} {f2 : V} {K : V → Prop} : xGet 0 3 (some (cObj 3 [f0, f1, f2])) K = K f0 := u_i0
theorem pgx3_3_0 {f0 : V} {f1 : V} {f2 : V} {v : V} {K : MC → Prop} : xPut 0 3 v (some (cObj 3 [f0, f1, f2])) K = K (cObj 3 [v, f1, f2]) := propext ⟨fun z => z.2.2.2, fun z => ⟨rfl, (by decide), (by show 0 < 3; decide), z⟩⟩
theorem gx3_3_1 {f0 : V} {f1 : V} {f2 : V} {K : V → Prop} : xGet 1 3 (some (cObj 3 [f0, f1, f2])) K = K f1 := u_i0
theorem pgx3_3_1 {f0 : V} {f1 : V} {f2 : V} {v : V} {K : MC → Prop} : xPut 1 3 v (some (cObj 3 [f0, f1, f2])) K = K (cObj 3 [f0, v, f2]) := propext ⟨fun z => z.2.2.2, fun z => ⟨rfl, (by decide), (by show 1 < 3; decide), z⟩⟩
theorem gx3_3_2 {f0 : V} {f1 : V} {f2 : V} {K : V → Prop} : xGet 2 3 (some (cObj 3 [f0, f1, f2])) K = K f2 := u_i0
theorem pgx3_3_2 {f0 : V} {f1 : V} {f2 : V} {v : V} {K : MC → Prop} : xPut 2 3 v (some (cObj 3 [f0, f1, f2])) K = K (cObj 3 [f0, f1, v]) := propext ⟨fun z => z.2.2.2, fun z => ⟨rfl, (by decide), (by show 2 < 3; decide), z⟩⟩
theorem gx3_50_0 {f0 : V} {f1 : V} {f2 : V} {K : V → Prop} : xGet 0 50 (some (cObj 3 [f0, f1, f2])) K = K f0 := u_i0
theorem pgx3_50_0 {f0 : V} {f1 : V} {f2 : V} {v : V} {K : MC → Prop} : xPut 0 50 v (some (cObj 3 [f0, f1, f2])) K = K (cObj 3 [v, f1, f2]) := propext ⟨fun z => z.2.2.2, fun z => ⟨rfl, (by decide), (by show 0 < 3; decide), z⟩⟩
theorem gx3_50_1 {f0 : V} {f1 : V} {f2 : V} {K : V → Prop} : xGet 1 50 (some (cObj 3 [f0, f1, f2])) K = K f1 := u_i0
theorem pgx3_50_1 {f0 : V} {f1 : V} {f2 : V} {v : V} {K : MC → Prop} : xPut 1 50 v (some (cObj 3 [f0, f1, f2])) K = K (cObj 3 [f0, v, f2]) := propext ⟨fun z => z.2.2.2, fun z => ⟨rfl, (by decide), (by show 1 < 3; decide), z⟩⟩
theorem gx3_50_2 {f0 : V} {f1 : V} {f2 : V} {K : V → Prop} : xGet 2 50 (some (cObj 3 [f0, f1, f2])) K = K f2 := u_i0
theorem pgx3_50_2 {f0 : V} {f1 : V} {f2 : V} {v : V} {K : MC → Prop} : xPut 2 50 v (some (cObj 3 [f0, f1, f2])) K = K (cObj 3 [f0, f1, v]) := propext ⟨fun z => z.2.2.2, fun z => ⟨rfl, (by decide), (by show 2 < 3; decide), z⟩⟩
def GX3 := And.intro @gx3_3_0 (And.intro @gx3_3_1 (And.intro @gx3_3_2 (And.intro @gx3_50_0 (And.intro @gx3_50_1 (@gx3_50_2)))))
def PX3 := And.intro @pgx3_3_0 (And.intro @pgx3_3_1 (And.intro @pgx3_3_2 (And.intro @pgx3_50_0 (And.intro @pgx3_50_1 (@pgx3_50_2)))))
theorem gx4_4_0 {f0 : V} {f1 : V} {f2 : V} {K : V → Prop} : xGet 0 4 (some (cObj 4 [f0, f1, f2])) K = K f0 := u_i0
theorem pgx4_4_0 {f0 : V} {f1 : V} {f2 : V} {v : V} {K : MC → Prop} : xPut 0 4 v (some (cObj 4 [f0, f1, f2])) K = K (cObj 4 [v, f1, f2]) := propext ⟨fun z => z.2.2.2, fun z => ⟨rfl, (by decide), (by show 0 < 3; decide), z⟩⟩
theorem gx4_4_1 {f0 : V} {f1 : V} {f2 : V} {K : V → Prop} : xGet 1 4 (some (cObj 4 [f0, f1, f2])) K = K f1 := u_i0
theorem pgx4_4_1 {f0 : V} {f1 : V} {f2 : V} {v : V} {K : MC → Prop} : xPut 1 4 v (some (cObj 4 [f0, f1, f2])) K = K (cObj 4 [f0, v, f2]) := propext ⟨fun z => z.2.2.2, fun z => ⟨rfl, (by decide), (by show 1 < 3; decide), z⟩⟩
theorem gx4_4_2 {f0 : V} {f1 : V} {f2 : V} {K : V → Prop} : xGet 2 4 (some (cObj 4 [f0, f1, f2])) K = K f2 := u_i0
theorem pgx4_4_2 {f0 : V} {f1 : V} {f2 : V} {v : V} {K : MC → Prop} : xPut 2 4 v (some (cObj 4 [f0, f1, f2])) K = K (cObj 4 [f0, f1, v]) := propext ⟨fun z => z.2.2.2, fun z => ⟨rfl, (by decide), (by show 2 < 3; decide), z⟩⟩
theorem gx4_50_0 {f0 : V} {f1 : V} {f2 : V} {K : V → Prop} : xGet 0 50 (some (cObj 4 [f0, f1, f2])) K = K f0 := u_i0
theorem pgx4_50_0 {f0 : V} {f1 : V} {f2 : V} {v : V} {K : MC → Prop} : xPut 0 50 v (some (cObj 4 [f0, f1, f2])) K = K (cObj 4 [v, f1, f2]) := propext ⟨fun z => z.2.2.2, fun z => ⟨rfl, (by decide), (by show 0 < 3; decide), z⟩⟩
theorem gx4_50_1 {f0 : V} {f1 : V} {f2 : V} {K : V → Prop} : xGet 1 50 (some (cObj 4 [f0, f1, f2])) K = K f1 := u_i0
theorem pgx4_50_1 {f0 : V} {f1 : V} {f2 : V} {v : V} {K : MC → Prop} : xPut 1 50 v (some (cObj 4 [f0, f1, f2])) K = K (cObj 4 [f0, v, f2]) := propext ⟨fun z => z.2.2.2, fun z => ⟨rfl, (by decide), (by show 1 < 3; decide), z⟩⟩
theorem gx4_50_2 {f0 : V} {f1 : V} {f2 : V} {K : V → Prop} : xGet 2 50 (some (cObj 4 [f0, f1, f2])) K = K f2 := u_i0
theorem pgx4_50_2 {f0 : V} {f1 : V} {f2 : V} {v : V} {K : MC → Prop} : xPut 2 50 v (some (cObj 4 [f0, f1, f2])) K = K (cObj 4 [f0, f1, v]) := propext ⟨fun z => z.2.2.2, fun z => ⟨rfl, (by decide), (by show 2 < 3; decide), z⟩⟩
def GX4 := And.intro @gx4_4_0 (And.intro @gx4_4_1 (And.intro @gx4_4_2 (And.intro @gx4_50_0 (And.intro @gx4_50_1 (@gx4_50_2)))))
def PX4 := And.intro @pgx4_4_0 (And.intro @pgx4_4_1 (And.intro @pgx4_4_2 (And.intro @pgx4_50_0 (And.intro @pgx4_50_1 (@pgx4_50_2)))))
theorem gx5_5_0 {f0 : V} {f1 : V} {f2 : V} {K : V → Prop} : xGet 0 5 (some (cObj 5 [f0, f1, f2])) K = K f0 := u_i0
theorem pgx5_5_0 {f0 : V} {f1 : V} {f2 : V} {v : V} {K : MC → Prop} : xPut 0 5 v (some (cObj 5 [f0, f1, f2])) K = K (cObj 5 [v, f1, f2]) := propext ⟨fun z => z.2.2.2, fun z => ⟨rfl, (by decide), (by show 0 < 3; decide), z⟩⟩
theorem gx5_5_1 {f0 : V} {f1 : V} {f2 : V} {K : V → Prop} : xGet 1 5 (some (cObj 5 [f0, f1, f2])) K = K f1 := u_i0
theorem pgx5_5_1 {f0 : V} {f1 : V} {f2 : V} {v : V} {K : MC → Prop} : xPut 1 5 v (some (cObj 5 [f0, f1, f2])) K = K (cObj 5 [f0, v, f2]) := propext ⟨fun z => z.2.2.2, fun z => ⟨rfl, (by decide), (by show 1 < 3; decide), z⟩⟩
theorem gx5_5_2 {f0 : V} {f1 : V} {f2 : V} {K : V → Prop} : xGet 2 5 (some (cObj 5 [f0, f1, f2])) K = K f2 := u_i0
theorem pgx5_5_2 {f0 : V} {f1 : V} {f2 : V} {v : V} {K : MC → Prop} : xPut 2 5 v (some (cObj 5 [f0, f1, f2])) K = K (cObj 5 [f0, f1, v]) := propext ⟨fun z => z.2.2.2, fun z => ⟨rfl, (by decide), (by show 2 < 3; decide), z⟩⟩
theorem gx5_50_0 {f0 : V} {f1 : V} {f2 : V} {K : V → Prop} : xGet 0 50 (some (cObj 5 [f0, f1, f2])) K = K f0 := u_i0
theorem pgx5_50_0 {f0 : V} {f1 : V} {f2 : V} {v : V} {K : MC → Prop} : xPut 0 50 v (some (cObj 5 [f0, f1, f2])) K = K (cObj 5 [v, f1, f2]) := propext ⟨fun z => z.2.2.2, fun z => ⟨rfl, (by decide), (by show 0 < 3; decide), z⟩⟩
theorem gx5_50_1 {f0 : V} {f1 : V} {f2 : V} {K : V → Prop} : xGet 1 50 (some (cObj 5 [f0, f1, f2])) K = K f1 := u_i0
theorem pgx5_50_1 {f0 : V} {f1 : V} {f2 : V} {v : V} {K : MC → Prop} : xPut 1 50 v (some (cObj 5 [f0, f1, f2])) K = K (cObj 5 [f0, v, f2]) := propext ⟨fun z => z.2.2.2, fun z => ⟨rfl, (by decide), (by show 1 < 3; decide), z⟩⟩
theorem gx5_50_2 {f0 : V} {f1 : V} {f2 : V} {K : V → Prop} : xGet 2 50 (some (cObj 5 [f0, f1, f2])) K = K f2 := u_i0
theorem pgx5_50_2 {f0 : V} {f1 : V} {f2 : V} {v : V} {K : MC → Prop} : xPut 2 50 v (some (cObj 5 [f0, f1, f2])) K = K (cObj 5 [f0, f1, v]) := propext ⟨fun z => z.2.2.2, fun z => ⟨rfl, (by decide), (by show 2 < 3; decide), z⟩⟩
def GX5 := And.intro @gx5_5_0 (And.intro @gx5_5_1 (And.intro @gx5_5_2 (And.intro @gx5_50_0 (And.intro @gx5_50_1 (@gx5_50_2)))))
def PX5 := And.intro @pgx5_5_0 (And.intro @pgx5_5_1 (And.intro @pgx5_5_2 (And.intro @pgx5_50_0 (And.intro @pgx5_50_1 (@pgx5_50_2)))))
theorem gx6_6_0 {f0 : V} {f1 : V} {f2 : V} {K : V → Prop} : xGet 0 6 (some (cObj 6 [f0, f1, f2])) K = K f0 := u_i0
theorem pgx6_6_0 {f0 : V} {f1 : V} {f2 : V} {v : V} {K : MC → Prop} : xPut 0 6 v (some (cObj 6 [f0, f1, f2])) K = K (cObj 6 [v, f1, f2]) := propext ⟨fun z => z.2.2.2, fun z => ⟨rfl, (by decide), (by show 0 < 3; decide), z⟩⟩
theorem gx6_6_1 {f0 : V} {f1 : V} {f2 : V} {K : V → Prop} : xGet 1 6 (some (cObj 6 [f0, f1, f2])) K = K f1 := u_i0
theorem pgx6_6_1 {f0 : V} {f1 : V} {f2 : V} {v : V} {K : MC → Prop} : xPut 1 6 v (some (cObj 6 [f0, f1, f2])) K = K (cObj 6 [f0, v, f2]) := propext ⟨fun z => z.2.2.2, fun z => ⟨rfl, (by decide), (by show 1 < 3; decide), z⟩⟩
theorem gx6_6_2 {f0 : V} {f1 : V} {f2 : V} {K : V → Prop} : xGet 2 6 (some (cObj 6 [f0, f1, f2])) K = K f2 := u_i0
theorem pgx6_6_2 {f0 : V} {f1 : V} {f2 : V} {v : V} {K : MC → Prop} : xPut 2 6 v (some (cObj 6 [f0, f1, f2])) K = K (cObj 6 [f0, f1, v]) := propext ⟨fun z => z.2.2.2, fun z => ⟨rfl, (by decide), (by show 2 < 3; decide), z⟩⟩
theorem gx6_50_0 {f0 : V} {f1 : V} {f2 : V} {K : V → Prop} : xGet 0 50 (some (cObj 6 [f0, f1, f2])) K = K f0 := u_i0
theorem pgx6_50_0 {f0 : V} {f1 : V} {f2 : V} {v : V} {K : MC → Prop} : xPut 0 50 v (some (cObj 6 [f0, f1, f2])) K = K (cObj 6 [v, f1, f2]) := propext ⟨fun z => z.2.2.2, fun z => ⟨rfl, (by decide), (by show 0 < 3; decide), z⟩⟩
theorem gx6_50_1 {f0 : V} {f1 : V} {f2 : V} {K : V → Prop} : xGet 1 50 (some (cObj 6 [f0, f1, f2])) K = K f1 := u_i0
theorem pgx6_50_1 {f0 : V} {f1 : V} {f2 : V} {v : V} {K : MC → Prop} : xPut 1 50 v (some (cObj 6 [f0, f1, f2])) K = K (cObj 6 [f0, v, f2]) := propext ⟨fun z => z.2.2.2, fun z => ⟨rfl, (by decide), (by show 1 < 3; decide), z⟩⟩
theorem gx6_50_2 {f0 : V} {f1 : V} {f2 : V} {K : V → Prop} : xGet 2 50 (some (cObj 6 [f0, f1, f2])) K = K f2 := u_i0
theorem pgx6_50_2 {f0 : V} {f1 : V} {f2 : V} {v : V} {K : MC → Prop} : xPut 2 50 v (some (cObj 6 [f0, f1, f2])) K = K (cObj 6 [f0, f1, v]) := propext ⟨fun z => z.2.2.2, fun z => ⟨rfl, (by decide), (by show 2 < 3; decide), z⟩⟩
def GX6 := And.intro @gx6_6_0 (And.intro @gx6_6_1 (And.intro @gx6_6_2 (And.intro @gx6_50_0 (And.intro @gx6_50_1 (@gx6_50_2)))))
def PX6 := And.intro @pgx6_6_0 (And.intro @pgx6_6_1 (And.intro @pgx6_6_2 (And.intro @pgx6_50_0 (And.intro @pgx6_50_1 (@pgx6_50_2)))))
theorem gx7_7_0 {f0 : V} {f1 : V} {f2 : V} {K : V → Prop} : xGet 0 7 (some (cObj 7 [f0, f1, f2])) K = K f0 := u_i0
theorem pgx7_7_0 {f0 : V} {f1 : V} {f2 : V} {v : V} {K : MC → Prop} : xPut 0 7 v (some (cObj 7 [f0, f1, f2])) K = K (cObj 7 [v, f1, f2]) := propext ⟨fun z => z.2.2.2, fun z => ⟨rfl, (by decide), (by show 0 < 3; decide), z⟩⟩
theorem gx7_7_1 {f0 : V} {f1 : V} {f2 : V} {K : V → Prop} : xGet 1 7 (some (cObj 7 [f0, f1, f2])) K = K f1 := u_i0
theorem pgx7_7_1 {f0 : V} {f1 : V} {f2 : V} {v : V} {K : MC → Prop} : xPut 1 7 v (some (cObj 7 [f0, f1, f2])) K = K (cObj 7 [f0, v, f2]) := propext ⟨fun z => z.2.2.2, fun z => ⟨rfl, (by decide), (by show 1 < 3; decide), z⟩⟩
theorem gx7_7_2 {f0 : V} {f1 : V} {f2 : V} {K : V → Prop} : xGet 2 7 (some (cObj 7 [f0, f1, f2])) K = K f2 := u_i0
theorem pgx7_7_2 {f0 : V} {f1 : V} {f2 : V} {v : V} {K : MC → Prop} : xPut 2 7 v (some (cObj 7 [f0, f1, f2])) K = K (cObj 7 [f0, f1, v]) := propext ⟨fun z => z.2.2.2, fun z => ⟨rfl, (by decide), (by show 2 < 3; decide), z⟩⟩
def GX7 := And.intro @gx7_7_0 (And.intro @gx7_7_1 (@gx7_7_2))
def PX7 := And.intro @pgx7_7_0 (And.intro @pgx7_7_1 (@pgx7_7_2))
theorem gx8_8_0 {f0 : V} {f1 : V} {f2 : V} {K : V → Prop} : xGet 0 8 (some (cObj 8 [f0, f1, f2])) K = K f0 := u_i0
theorem pgx8_8_0 {f0 : V} {f1 : V} {f2 : V} {v : V} {K : MC → Prop} : xPut 0 8 v (some (cObj 8 [f0, f1, f2])) K = K (cObj 8 [v, f1, f2]) := propext ⟨fun z => z.2.2.2, fun z => ⟨rfl, (by decide), (by show 0 < 3; decide), z⟩⟩
theorem gx8_8_1 {f0 : V} {f1 : V} {f2 : V} {K : V → Prop} : xGet 1 8 (some (cObj 8 [f0, f1, f2])) K = K f1 := u_i0
theorem pgx8_8_1 {f0 : V} {f1 : V} {f2 : V} {v : V} {K : MC → Prop} : xPut 1 8 v (some (cObj 8 [f0, f1, f2])) K = K (cObj 8 [f0, v, f2]) := propext ⟨fun z => z.2.2.2, fun z => ⟨rfl, (by decide), (by show 1 < 3; decide), z⟩⟩
theorem gx8_8_2 {f0 : V} {f1 : V} {f2 : V} {K : V → Prop} : xGet 2 8 (some (cObj 8 [f0, f1, f2])) K = K f2 := u_i0
theorem pgx8_8_2 {f0 : V} {f1 : V} {f2 : V} {v : V} {K : MC → Prop} : xPut 2 8 v (some (cObj 8 [f0, f1, f2])) K = K (cObj 8 [f0, f1, v]) := propext ⟨fun z => z.2.2.2, fun z => ⟨rfl, (by decide), (by show 2 < 3; decide), z⟩⟩
theorem gx8_50_0 {f0 : V} {f1 : V} {f2 : V} {K : V → Prop} : xGet 0 50 (some (cObj 8 [f0, f1, f2])) K = K f0 := u_i0
theorem pgx8_50_0 {f0 : V} {f1 : V} {f2 : V} {v : V} {K : MC → Prop} : xPut 0 50 v (some (cObj 8 [f0, f1, f2])) K = K (cObj 8 [v, f1, f2]) := propext ⟨fun z => z.2.2.2, fun z => ⟨rfl, (by decide), (by show 0 < 3; decide), z⟩⟩
theorem gx8_50_1 {f0 : V} {f1 : V} {f2 : V} {K : V → Prop} : xGet 1 50 (some (cObj 8 [f0, f1, f2])) K = K f1 := u_i0
theorem pgx8_50_1 {f0 : V} {f1 : V} {f2 : V} {v : V} {K : MC → Prop} : xPut 1 50 v (some (cObj 8 [f0, f1, f2])) K = K (cObj 8 [f0, v, f2]) := propext ⟨fun z => z.2.2.2, fun z => ⟨rfl, (by decide), (by show 1 < 3; decide), z⟩⟩
theorem gx8_50_2 {f0 : V} {f1 : V} {f2 : V} {K : V → Prop} : xGet 2 50 (some (cObj 8 [f0, f1, f2])) K = K f2 := u_i0
theorem pgx8_50_2 {f0 : V} {f1 : V} {f2 : V} {v : V} {K : MC → Prop} : xPut 2 50 v (some (cObj 8 [f0, f1, f2])) K = K (cObj 8 [f0, f1, v]) := propext ⟨fun z => z.2.2.2, fun z => ⟨rfl, (by decide), (by show 2 < 3; decide), z⟩⟩
def GX8 := And.intro @gx8_8_0 (And.intro @gx8_8_1 (And.intro @gx8_8_2 (And.intro @gx8_50_0 (And.intro @gx8_50_1 (@gx8_50_2)))))
def PX8 := And.intro @pgx8_8_0 (And.intro @pgx8_8_1 (And.intro @pgx8_8_2 (And.intro @pgx8_50_0 (And.intro @pgx8_50_1 (@pgx8_50_2)))))
theorem gx9_9_0 {f0 : V} {f1 : V} {f2 : V} {f3 : V} {K : V → Prop} : xGet 0 9 (some (cObj 9 [f0, f1, f2, f3])) K = K f0 := u_i0
theorem pgx9_9_0 {f0 : V} {f1 : V} {f2 : V} {f3 : V} {v : V} {K : MC → Prop} : xPut 0 9 v (some (cObj 9 [f0, f1, f2, f3])) K = K (cObj 9 [v, f1, f2, f3]) := propext ⟨fun z => z.2.2.2, fun z => ⟨rfl, (by decide), (by show 0 < 4; decide), z⟩⟩
theorem gx9_9_1 {f0 : V} {f1 : V} {f2 : V} {f3 : V} {K : V → Prop} : xGet 1 9 (some (cObj 9 [f0, f1, f2, f3])) K = K f1 := u_i0
theorem pgx9_9_1 {f0 : V} {f1 : V} {f2 : V} {f3 : V} {v : V} {K : MC → Prop} : xPut 1 9 v (some (cObj 9 [f0, f1, f2, f3])) K = K (cObj 9 [f0, v, f2, f3]) := propext ⟨fun z => z.2.2.2, fun z => ⟨rfl, (by decide), (by show 1 < 4; decide), z⟩⟩
theorem gx9_9_2 {f0 : V} {f1 : V} {f2 : V} {f3 : V} {K : V → Prop} : xGet 2 9 (some (cObj 9 [f0, f1, f2, f3])) K = K f2 := u_i0
theorem pgx9_9_2 {f0 : V} {f1 : V} {f2 : V} {f3 : V} {v : V} {K : MC → Prop} : xPut 2 9 v (some (cObj 9 [f0, f1, f2, f3])) K = K (cObj 9 [f0, f1, v, f3]) := propext ⟨fun z => z.2.2.2, fun z => ⟨rfl, (by decide), (by show 2 < 4; decide), z⟩⟩
theorem gx9_9_3 {f0 : V} {f1 : V} {f2 : V} {f3 : V} {K : V → Prop} : xGet 3 9 (some (cObj 9 [f0, f1, f2, f3])) K = K f3 := u_i0
theorem pgx9_9_3 {f0 : V} {f1 : V} {f2 : V} {f3 : V} {v : V} {K : MC → Prop} : xPut 3 9 v (some (cObj 9 [f0, f1, f2, f3])) K = K (cObj 9 [f0, f1, f2, v]) := propext ⟨fun z => z.2.2.2, fun z => ⟨rfl, (by decide), (by show 3 < 4; decide), z⟩⟩
theorem gx9_50_0 {f0 : V} {f1 : V} {f2 : V} {f3 : V} {K : V → Prop} : xGet 0 50 (some (cObj 9 [f0, f1, f2, f3])) K = K f0 := u_i0
theorem pgx9_50_0 {f0 : V} {f1 : V} {f2 : V} {f3 : V} {v : V} {K : MC → Prop} : xPut 0 50 v (some (cObj 9 [f0, f1, f2, f3])) K = K (cObj 9 [v, f1, f2, f3]) := propext ⟨fun z => z.2.2.2, fun z => ⟨rfl, (by decide), (by show 0 < 4; decide), z⟩⟩
theorem gx9_50_1 {f0 : V} {f1 : V} {f2 : V} {f3 : V} {K : V → Prop} : xGet 1 50 (some (cObj 9 [f0, f1, f2, f3])) K = K f1 := u_i0
theorem pgx9_50_1 {f0 : V} {f1 : V} {f2 : V} {f3 : V} {v : V} {K : MC → Prop} : xPut 1 50 v (some (cObj 9 [f0, f1, f2, f3])) K = K (cObj 9 [f0, v, f2, f3]) := propext ⟨fun z => z.2.2.2, fun z => ⟨rfl, (by decide), (by show 1 < 4; decide), z⟩⟩
theorem gx9_50_2 {f0 : V} {f1 : V} {f2 : V} {f3 : V} {K : V → Prop} : xGet 2 50 (some (cObj 9 [f0, f1, f2, f3])) K = K f2 := u_i0
theorem pgx9_50_2 {f0 : V} {f1 : V} {f2 : V} {f3 : V} {v : V} {K : MC → Prop} : xPut 2 50 v (some (cObj 9 [f0, f1, f2, f3])) K = K (cObj 9 [f0, f1, v, f3]) := propext ⟨fun z => z.2.2.2, fun z => ⟨rfl, (by decide), (by show 2 < 4; decide), z⟩⟩
theorem gx9_50_3 {f0 : V} {f1 : V} {f2 : V} {f3 : V} {K : V → Prop} : xGet 3 50 (some (cObj 9 [f0, f1, f2, f3])) K = K f3 := u_i0
theorem pgx9_50_3 {f0 : V} {f1 : V} {f2 : V} {f3 : V} {v : V} {K : MC → Prop} : xPut 3 50 v (some (cObj 9 [f0, f1, f2, f3])) K = K (cObj 9 [f0, f1, f2, v]) := propext ⟨fun z => z.2.2.2, fun z => ⟨rfl, (by decide), (by show 3 < 4; decide), z⟩⟩
def GX9 := And.intro @gx9_9_0 (And.intro @gx9_9_1 (And.intro @gx9_9_2 (And.intro @gx9_9_3 (And.intro @gx9_50_0 (And.intro @gx9_50_1 (And.intro @gx9_50_2 (@gx9_50_3)))))))
def PX9 := And.intro @pgx9_9_0 (And.intro @pgx9_9_1 (And.intro @pgx9_9_2 (And.intro @pgx9_9_3 (And.intro @pgx9_50_0 (And.intro @pgx9_50_1 (And.intro @pgx9_50_2 (@pgx9_50_3)))))))
theorem gx10_10_0 {f0 : V} {f1 : V} {f2 : V} {f3 : V} {f4 : V} {f5 : V} {f6 : V} {f7 : V} {f8 : V} {K : V → Prop} : xGet 0 10 (some (cObj 10 [f0, f1, f2, f3, f4, f5, f6, f7, f8])) K = K f0 := u_i0
theorem pgx10_10_0 {f0 : V} {f1 : V} {f2 : V} {f3 : V} {f4 : V} {f5 : V} {f6 : V} {f7 : V} {f8 : V} {v : V} {K : MC → Prop} : xPut 0 10 v (some (cObj 10 [f0, f1, f2, f3, f4, f5, f6, f7, f8])) K = K (cObj 10 [v, f1, f2, f3, f4, f5, f6, f7, f8]) := propext ⟨fun z => z.2.2.2, fun z => ⟨rfl, (by decide), (by show 0 < 9; decide), z⟩⟩
theorem gx10_10_1 {f0 : V} {f1 : V} {f2 : V} {f3 : V} {f4 : V} {f5 : V} {f6 : V} {f7 : V} {f8 : V} {K : V → Prop} : xGet 1 10 (some (cObj 10 [f0, f1, f2, f3, f4, f5, f6, f7, f8])) K = K f1 := u_i0
theorem pgx10_10_1 {f0 : V} {f1 : V} {f2 : V} {f3 : V} {f4 : V} {f5 : V} {f6 : V} {f7 : V} {f8 : V} {v : V} {K : MC → Prop} : xPut 1 10 v (some (cObj 10 [f0, f1, f2, f3, f4, f5, f6, f7, f8])) K = K (cObj 10 [f0, v, f2, f3, f4, f5, f6, f7, f8]) := propext ⟨fun z => z.2.2.2, fun z => ⟨rfl, (by decide), (by show 1 < 9; decide), z⟩⟩
theorem gx10_10_2 {f0 : V} {f1 : V} {f2 : V} {f3 : V} {f4 : V} {f5 : V} {f6 : V} {f7 : V} {f8 : V} {K : V → Prop} : xGet 2 10 (some (cObj 10 [f0, f1, f2, f3, f4, f5, f6, f7, f8])) K = K f2 := u_i0
theorem pgx10_10_2 {f0 : V} {f1 : V} {f2 : V} {f3 : V} {f4 : V} {f5 : V} {f6 : V} {f7 : V} {f8 : V} {v : V} {K : MC → Prop} : xPut 2 10 v (some (cObj 10 [f0, f1, f2, f3, f4, f5, f6, f7, f8])) K = K (cObj 10 [f0, f1, v, f3, f4, f5, f6, f7, f8]) := propext ⟨fun z => z.2.2.2, fun z => ⟨rfl, (by decide), (by show 2 < 9; decide), z⟩⟩
theorem gx10_10_3 {f0 : V} {f1 : V} {f2 : V} {f3 : V} {f4 : V} {f5 : V} {f6 : V} {f7 : V} {f8 : V} {K : V → Prop} : xGet 3 10 (some (cObj 10 [f0, f1, f2, f3, f4, f5, f6, f7, f8])) K = K f3 := u_i0
theorem pgx10_10_3 {f0 : V} {f1 : V} {f2 : V} {f3 : V} {f4 : V} {f5 : V} {f6 : V} {f7 : V} {f8 : V} {v : V} {K : MC → Prop} : xPut 3 10 v (some (cObj 10 [f0, f1, f2, f3, f4, f5, f6, f7, f8])) K = K (cObj 10 [f0, f1, f2, v, f4, f5, f6, f7, f8]) := propext ⟨fun z => z.2.2.2, fun z => ⟨rfl, (by decide), (by show 3 < 9; decide), z⟩⟩
theorem gx10_10_4 {f0 : V} {f1 : V} {f2 : V} {f3 : V} {f4 : V} {f5 : V} {f6 : V} {f7 : V} {f8 : V} {K : V → Prop} : xGet 4 10 (some (cObj 10 [f0, f1, f2, f3, f4, f5, f6, f7, f8])) K = K f4 := u_i0
theorem pgx10_10_4 {f0 : V} {f1 : V} {f2 : V} {f3 : V} {f4 : V} {f5 : V} {f6 : V} {f7 : V} {f8 : V} {v : V} {K : MC → Prop} : xPut 4 10 v (some (cObj 10 [f0, f1, f2, f3, f4, f5, f6, f7, f8])) K = K (cObj 10 [f0, f1, f2, f3, v, f5, f6, f7, f8]) := propext ⟨fun z => z.2.2.2, fun z => ⟨rfl, (by decide), (by show 4 < 9; decide), z⟩⟩
theorem gx10_10_5 {f0 : V} {f1 : V} {f2 : V} {f3 : V} {f4 : V} {f5 : V} {f6 : V} {f7 : V} {f8 : V} {K : V → Prop} : xGet 5 10 (some (cObj 10 [f0, f1, f2, f3, f4, f5, f6, f7, f8])) K = K f5 := u_i0
theorem pgx10_10_5 {f0 : V} {f1 : V} {f2 : V} {f3 : V} {f4 : V} {f5 : V} {f6 : V} {f7 : V} {f8 : V} {v : V} {K : MC → Prop} : xPut 5 10 v (some (cObj 10 [f0, f1, f2, f3, f4, f5, f6, f7, f8])) K = K (cObj 10 [f0, f1, f2, f3, f4, v, f6, f7, f8]) := propext ⟨fun z => z.2.2.2, fun z => ⟨rfl, (by decide), (by show 5 < 9; decide), z⟩⟩
theorem gx10_10_6 {f0 : V} {f1 : V} {f2 : V} {f3 : V} {f4 : V} {f5 : V} {f6 : V} {f7 : V} {f8 : V} {K : V → Prop} : xGet 6 10 (some (cObj 10 [f0, f1, f2, f3, f4, f5, f6, f7, f8])) K = K f6 := u_i0
theorem pgx10_10_6 {f0 : V} {f1 : V} {f2 : V} {f3 : V} {f4 : V} {f5 : V} {f6 : V} {f7 : V} {f8 : V} {v : V} {K : MC → Prop} : xPut 6 10 v (some (cObj 10 [f0, f1, f2, f3, f4, f5, f6, f7, f8])) K = K (cObj 10 [f0, f1, f2, f3, f4, f5, v, f7, f8]) := propext ⟨fun z => z.2.2.2, fun z => ⟨rfl, (by decide), (by show 6 < 9; decide), z⟩⟩
theorem gx10_10_7 {f0 : V} {f1 : V} {f2 : V} {f3 : V} {f4 : V} {f5 : V} {f6 : V} {f7 : V} {f8 : V} {K : V → Prop} : xGet 7 10 (some (cObj 10 [f0, f1, f2, f3, f4, f5, f6, f7, f8])) K = K f7 := u_i0
theorem pgx10_10_7 {f0 : V} {f1 : V} {f2 : V} {f3 : V} {f4 : V} {f5 : V} {f6 : V} {f7 : V} {f8 : V} {v : V} {K : MC → Prop} : xPut 7 10 v (some (cObj 10 [f0, f1, f2, f3, f4, f5, f6, f7, f8])) K = K (cObj 10 [f0, f1, f2, f3, f4, f5, f6, v, f8]) := propext ⟨fun z => z.2.2.2, fun z => ⟨rfl, (by decide), (by show 7 < 9; decide), z⟩⟩
theorem gx10_10_8 {f0 : V} {f1 : V} {f2 : V} {f3 : V} {f4 : V} {f5 : V} {f6 : V} {f7 : V} {f8 : V} {K : V → Prop} : xGet 8 10 (some (cObj 10 [f0, f1, f2, f3, f4, f5, f6, f7, f8])) K = K f8 := u_i0
theorem pgx10_10_8 {f0 : V} {f1 : V} {f2 : V} {f3 : V} {f4 : V} {f5 : V} {f6 : V} {f7 : V} {f8 : V} {v : V} {K : MC → Prop} : xPut 8 10 v (some (cObj 10 [f0, f1, f2, f3, f4, f5, f6, f7, f8])) K = K (cObj 10 [f0, f1, f2, f3, f4, f5, f6, f7, v]) := propext ⟨fun z => z.2.2.2, fun z => ⟨rfl, (by decide), (by show 8 < 9; decide), z⟩⟩
def GX10 := And.intro @gx10_10_0 (And.intro @gx10_10_1 (And.intro @gx10_10_2 (And.intro @gx10_10_3 (And.intro @gx10_10_4 (And.intro @gx10_10_5 (And.intro @gx10_10_6 (And.intro @gx10_10_7 (@gx10_10_8))))))))
def PX10 := And.intro @pgx10_10_0 (And.intro @pgx10_10_1 (And.intro @pgx10_10_2 (And.intro @pgx10_10_3 (And.intro @pgx10_10_4 (And.intro @pgx10_10_5 (And.intro @pgx10_10_6 (And.intro @pgx10_10_7 (@pgx10_10_8))))))))
theorem gx11_11_0 {f0 : V} {f1 : V} {f2 : V} {f3 : V} {f4 : V} {f5 : V} {f6 : V} {f7 : V} {f8 : V} {f9 : V} {f10 : V} {f11 : V} {f12 : V} {K : V → Prop} : xGet 0 11 (some (cObj 11 [f0, f1, f2, f3, f4, f5, f6, f7, f8, f9, f10, f11, f12])) K = K f0 := u_i0
theorem pgx11_11_0 {f0 : V} {f1 : V} {f2 : V} {f3 : V} {f4 : V} {f5 : V} {f6 : V} {f7 : V} {f8 : V} {f9 : V} {f10 : V} {f11 : V} {f12 : V} {v : V} {K : MC → Prop} : xPut 0 11 v (some (cObj 11 [f0, f1, f2, f3, f4, f5, f6, f7, f8, f9, f10, f11, f12])) K = K (cObj 11 [v, f1, f2, f3, f4, f5, f6, f7, f8, f9, f10, f11, f12]) := propext ⟨fun z => z.2.2.2, fun z => ⟨rfl, (by decide), (by show 0 < 13; decide), z⟩⟩
theorem gx11_11_1 {f0 : V} {f1 : V} {f2 : V} {f3 : V} {f4 : V} {f5 : V} {f6 : V} {f7 : V} {f8 : V} {f9 : V} {f10 : V} {f11 : V} {f12 : V} {K : V → Prop} : xGet 1 11 (some (cObj 11 [f0, f1, f2, f3, f4, f5, f6, f7, f8, f9, f10, f11, f12])) K = K f1 := u_i0
theorem pgx11_11_1 {f0 : V} {f1 : V} {f2 : V} {f3 : V} {f4 : V} {f5 : V} {f6 : V} {f7 : V} {f8 : V} {f9 : V} {f10 : V} {f11 : V} {f12 : V} {v : V} {K : MC → Prop} : xPut 1 11 v (some (cObj 11 [f0, f1, f2, f3, f4, f5, f6, f7, f8, f9, f10, f11, f12])) K = K (cObj 11 [f0, v, f2, f3, f4, f5, f6, f7, f8, f9, f10, f11, f12]) := propext ⟨fun z => z.2.2.2, fun z => ⟨rfl, (by decide), (by show 1 < 13; decide), z⟩⟩
theorem gx11_11_2 {f0 : V} {f1 : V} {f2 : V} {f3 : V} {f4 : V} {f5 : V} {f6 : V} {f7 : V} {f8 : V} {f9 : V} {f10 : V} {f11 : V} {f12 : V} {K : V → Prop} : xGet 2 11 (some (cObj 11 [f0, f1, f2, f3, f4, f5, f6, f7, f8, f9, f10, f11, f12])) K = K f2 := u_i0
theorem pgx11_11_2 {f0 : V} {f1 : V} {f2 : V} {f3 : V} {f4 : V} {f5 : V} {f6 : V} {f7 : V} {f8 : V} {f9 : V} {f10 : V} {f11 : V} {f12 : V} {v : V} {K : MC → Prop} : xPut 2 11 v (some (cObj 11 [f0, f1, f2, f3, f4, f5, f6, f7, f8, f9, f10, f11, f12])) K = K (cObj 11 [f0, f1, v, f3, f4, f5, f6, f7, f8, f9, f10, f11, f12]) := propext ⟨fun z => z.2.2.2, fun z => ⟨rfl, (by decide), (by show 2 < 13; decide), z⟩⟩
theorem gx11_11_3 {f0 : V} {f1 : V} {f2 : V} {f3 : V} {f4 : V} {f5 : V} {f6 : V} {f7 : V} {f8 : V} {f9 : V} {f10 : V} {f11 : V} {f12 : V} {K : V → Prop} : xGet 3 11 (some (cObj 11 [f0, f1, f2, f3, f4, f5, f6, f7, f8, f9, f10, f11, f12])) K = K f3 := u_i0
theorem pgx11_11_3 {f0 : V} {f1 : V} {f2 : V} {f3 : V} {f4 : V} {f5 : V} {f6 : V} {f7 : V} {f8 : V} {f9 : V} {f10 : V} {f11 : V} {f12 : V} {v : V} {K : MC → Prop} : xPut 3 11 v (some (cObj 11 [f0, f1, f2, f3, f4, f5, f6, f7, f8, f9, f10, f11, f12])) K = K (cObj 11 [f0, f1, f2, v, f4, f5, f6, f7, f8, f9, f10, f11, f12]) := propext ⟨fun z => z.2.2.2, fun z => ⟨rfl, (by decide), (by show 3 < 13; decide), z⟩⟩
theorem gx11_11_4 {f0 : V} {f1 : V} {f2 : V} {f3 : V} {f4 : V} {f5 : V} {f6 : V} {f7 : V} {f8 : V} {f9 : V} {f10 : V} {f11 : V} {f12 : V} {K : V → Prop} : xGet 4 11 (some (cObj 11 [f0, f1, f2, f3, f4, f5, f6, f7, f8, f9, f10, f11, f12])) K = K f4 := u_i0
theorem pgx11_11_4 {f0 : V} {f1 : V} {f2 : V} {f3 : V} {f4 : V} {f5 : V} {f6 : V} {f7 : V} {f8 : V} {f9 : V} {f10 : V} {f11 : V} {f12 : V} {v : V} {K : MC → Prop} : xPut 4 11 v (some (cObj 11 [f0, f1, f2, f3, f4, f5, f6, f7, f8, f9, f10, f11, f12])) K = K (cObj 11 [f0, f1, f2, f3, v, f5, f6, f7, f8, f9, f10, f11, f12]) := propext ⟨fun z => z.2.2.2, fun z => ⟨rfl, (by decide), (by show 4 < 13; decide), z⟩⟩
theorem gx11_11_5 {f0 : V} {f1 : V} {f2 : V} {f3 : V} {f4 : V} {f5 : V} {f6 : V} {f7 : V} {f8 : V} {f9 : V} {f10 : V} {f11 : V} {f12 : V} {K : V → Prop} : xGet 5 11 (some (cObj 11 [f0, f1, f2, f3, f4, f5, f6, f7, f8, f9, f10, f11, f12])) K = K f5 := u_i0
theorem pgx11_11_5 {f0 : V} {f1 : V} {f2 : V} {f3 : V} {f4 : V} {f5 : V} {f6 : V} {f7 : V} {f8 : V} {f9 : V} {f10 : V} {f11 : V} {f12 : V} {v : V} {K : MC → Prop} : xPut 5 11 v (some (cObj 11 [f0, f1, f2, f3, f4, f5, f6, f7, f8, f9, f10, f11, f12])) K = K (cObj 11 [f0, f1, f2, f3, f4, v, f6, f7, f8, f9, f10, f11, f12]) := propext ⟨fun z => z.2.2.2, fun z => ⟨rfl, (by decide), (by show 5 < 13; decide), z⟩⟩
theorem gx11_11_6 {f0 : V} {f1 : V} {f2 : V} {f3 : V} {f4 : V} {f5 : V} {f6 : V} {f7 : V} {f8 : V} {f9 : V} {f10 : V} {f11 : V} {f12 : V} {K : V → Prop} : xGet 6 11 (some (cObj 11 [f0, f1, f2, f3, f4, f5, f6, f7, f8, f9, f10, f11, f12])) K = K f6 := u_i0
theorem pgx11_11_6 {f0 : V} {f1 : V} {f2 : V} {f3 : V} {f4 : V} {f5 : V} {f6 : V} {f7 : V} {f8 : V} {f9 : V} {f10 : V} {f11 : V} {f12 : V} {v : V} {K : MC → Prop} : xPut 6 11 v (some (cObj 11 [f0, f1, f2, f3, f4, f5, f6, f7, f8, f9, f10, f11, f12])) K = K (cObj 11 [f0, f1, f2, f3, f4, f5, v, f7, f8, f9, f10, f11, f12]) := propext ⟨fun z => z.2.2.2, fun z => ⟨rfl, (by decide), (by show 6 < 13; decide), z⟩⟩
theorem gx11_11_7 {f0 : V} {f1 : V} {f2 : V} {f3 : V} {f4 : V} {f5 : V} {f6 : V} {f7 : V} {f8 : V} {f9 : V} {f10 : V} {f11 : V} {f12 : V} {K : V → Prop} : xGet 7 11 (some (cObj 11 [f0, f1, f2, f3, f4, f5, f6, f7, f8, f9, f10, f11, f12])) K = K f7 := u_i0
theorem pgx11_11_7 {f0 : V} {f1 : V} {f2 : V} {f3 : V} {f4 : V} {f5 : V} {f6 : V} {f7 : V} {f8 : V} {f9 : V} {f10 : V} {f11 : V} {f12 : V} {v : V} {K : MC → Prop} : xPut 7 11 v (some (cObj 11 [f0, f1, f2, f3, f4, f5, f6, f7, f8, f9, f10, f11, f12])) K = K (cObj 11 [f0, f1, f2, f3, f4, f5, f6, v, f8, f9, f10, f11, f12]) := propext ⟨fun z => z.2.2.2, fun z => ⟨rfl, (by decide), (by show 7 < 13; decide), z⟩⟩
theorem gx11_11_8 {f0 : V} {f1 : V} {f2 : V} {f3 : V} {f4 : V} {f5 : V} {f6 : V} {f7 : V} {f8 : V} {f9 : V} {f10 : V} {f11 : V} {f12 : V} {K : V → Prop} : xGet 8 11 (some (cObj 11 [f0, f1, f2, f3, f4, f5, f6, f7, f8, f9, f10, f11, f12])) K = K f8 := u_i0
theorem pgx11_11_8 {f0 : V} {f1 : V} {f2 : V} {f3 : V} {f4 : V} {f5 : V} {f6 : V} {f7 : V} {f8 : V} {f9 : V} {f10 : V} {f11 : V} {f12 : V} {v : V} {K : MC → Prop} : xPut 8 11 v (some (cObj 11 [f0, f1, f2, f3, f4, f5, f6, f7, f8, f9, f10, f11, f12])) K = K (cObj 11 [f0, f1, f2, f3, f4, f5, f6, f7, v, f9, f10, f11, f12]) := propext ⟨fun z => z.2.2.2, fun z => ⟨rfl, (by decide), (by show 8 < 13; decide), z⟩⟩
theorem gx11_11_9 {f0 : V} {f1 : V} {f2 : V} {f3 : V} {f4 : V} {f5 : V} {f6 : V} {f7 : V} {f8 : V} {f9 : V} {f10 : V} {f11 : V} {f12 : V} {K : V → Prop} : xGet 9 11 (some (cObj 11 [f0, f1, f2, f3, f4, f5, f6, f7, f8, f9, f10, f11, f12])) K = K f9 := u_i0
theorem pgx11_11_9 {f0 : V} {f1 : V} {f2 : V} {f3 : V} {f4 : V} {f5 : V} {f6 : V} {f7 : V} {f8 : V} {f9 : V} {f10 : V} {f11 : V} {f12 : V} {v : V} {K : MC → Prop} : xPut 9 11 v (some (cObj 11 [f0, f1, f2, f3, f4, f5, f6, f7, f8, f9, f10, f11, f12])) K = K (cObj 11 [f0, f1, f2, f3, f4, f5, f6, f7, f8, v, f10, f11, f12]) := propext ⟨fun z => z.2.2.2, fun z => ⟨rfl, (by decide), (by show 9 < 13; decide), z⟩⟩
theorem gx11_11_10 {f0 : V} {f1 : V} {f2 : V} {f3 : V} {f4 : V} {f5 : V} {f6 : V} {f7 : V} {f8 : V} {f9 : V} {f10 : V} {f11 : V} {f12 : V} {K : V → Prop} : xGet 10 11 (some (cObj 11 [f0, f1, f2, f3, f4, f5, f6, f7, f8, f9, f10, f11, f12])) K = K f10 := u_i0
theorem pgx11_11_10 {f0 : V} {f1 : V} {f2 : V} {f3 : V} {f4 : V} {f5 : V} {f6 : V} {f7 : V} {f8 : V} {f9 : V} {f10 : V} {f11 : V} {f12 : V} {v : V} {K : MC → Prop} : xPut 10 11 v (some (cObj 11 [f0, f1, f2, f3, f4, f5, f6, f7, f8, f9, f10, f11, f12])) K = K (cObj 11 [f0, f1, f2, f3, f4, f5, f6, f7, f8, f9, v, f11, f12]) := propext ⟨fun z => z.2.2.2, fun z => ⟨rfl, (by decide), (by show 10 < 13; decide), z⟩⟩
theorem gx11_11_11 {f0 : V} {f1 : V} {f2 : V} {f3 : V} {f4 : V} {f5 : V} {f6 : V} {f7 : V} {f8 : V} {f9 : V} {f10 : V} {f11 : V} {f12 : V} {K : V → Prop} : xGet 11 11 (some (cObj 11 [f0, f1, f2, f3, f4, f5, f6, f7, f8, f9, f10, f11, f12])) K = K f11 := u_i0
theorem pgx11_11_11 {f0 : V} {f1 : V} {f2 : V} {f3 : V} {f4 : V} {f5 : V} {f6 : V} {f7 : V} {f8 : V} {f9 : V} {f10 : V} {f11 : V} {f12 : V} {v : V} {K : MC → Prop} : xPut 11 11 v (some (cObj 11 [f0, f1, f2, f3, f4, f5, f6, f7, f8, f9, f10, f11, f12])) K = K (cObj 11 [f0, f1, f2, f3, f4, f5, f6, f7, f8, f9, f10, v, f12]) := propext ⟨fun z => z.2.2.2, fun z => ⟨rfl, (by decide), (by show 11 < 13; decide), z⟩⟩
theorem gx11_11_12 {f0 : V} {f1 : V} {f2 : V} {f3 : V} {f4 : V} {f5 : V} {f6 : V} {f7 : V} {f8 : V} {f9 : V} {f10 : V} {f11 : V} {f12 : V} {K : V → Prop} : xGet 12 11 (some (cObj 11 [f0, f1, f2, f3, f4, f5, f6, f7, f8, f9, f10, f11, f12])) K = K f12 := u_i0
theorem pgx11_11_12 {f0 : V} {f1 : V} {f2 : V} {f3 : V} {f4 : V} {f5 : V} {f6 : V} {f7 : V} {f8 : V} {f9 : V} {f10 : V} {f11 : V} {f12 : V} {v : V} {K : MC → Prop} : xPut 12 11 v (some (cObj 11 [f0, f1, f2, f3, f4, f5, f6, f7, f8, f9, f10, f11, f12])) K = K (cObj 11 [f0, f1, f2, f3, f4, f5, f6, f7, f8, f9, f10, f11, v]) := propext ⟨fun z => z.2.2.2, fun z => ⟨rfl, (by decide), (by show 12 < 13; decide), z⟩⟩
def GX11 := And.intro @gx11_11_0 (And.intro @gx11_11_1 (And.intro @gx11_11_2 (And.intro @gx11_11_3 (And.intro @gx11_11_4 (And.intro @gx11_11_5 (And.intro @gx11_11_6 (And.intro @gx11_11_7 (And.intro @gx11_11_8 (And.intro @gx11_11_9 (And.intro @gx11_11_10 (And.intro @gx11_11_11 (@gx11_11_12))))))))))))
def PX11 := And.intro @pgx11_11_0 (And.intro @pgx11_11_1 (And.intro @pgx11_11_2 (And.intro @pgx11_11_3 (And.intro @pgx11_11_4 (And.intro @pgx11_11_5 (And.intro @pgx11_11_6 (And.intro @pgx11_11_7 (And.intro @pgx11_11_8 (And.intro @pgx11_11_9 (And.intro @pgx11_11_10 (And.intro @pgx11_11_11 (@pgx11_11_12))))))))))))
theorem gx12_12_0 {f0 : V} {f1 : V} {f2 : V} {f3 : V} {f4 : V} {K : V → Prop} : xGet 0 12 (some (cObj 12 [f0, f1, f2, f3, f4])) K = K f0 := u_i0
theorem pgx12_12_0 {f0 : V} {f1 : V} {f2 : V} {f3 : V} {f4 : V} {v : V} {K : MC → Prop} : xPut 0 12 v (some (cObj 12 [f0, f1, f2, f3, f4])) K = K (cObj 12 [v, f1, f2, f3, f4]) := propext ⟨fun z => z.2.2.2, fun z => ⟨rfl, (by decide), (by show 0 < 5; decide), z⟩⟩
theorem gx12_12_1 {f0 : V} {f1 : V} {f2 : V} {f3 : V} {f4 : V} {K : V → Prop} : xGet 1 12 (some (cObj 12 [f0, f1, f2, f3, f4])) K = K f1 := u_i0
theorem pgx12_12_1 {f0 : V} {f1 : V} {f2 : V} {f3 : V} {f4 : V} {v : V} {K : MC → Prop} : xPut 1 12 v (some (cObj 12 [f0, f1, f2, f3, f4])) K = K (cObj 12 [f0, v, f2, f3, f4]) := propext ⟨fun z => z.2.2.2, fun z => ⟨rfl, (by decide), (by show 1 < 5; decide), z⟩⟩
theorem gx12_12_2 {f0 : V} {f1 : V} {f2 : V} {f3 : V} {f4 : V} {K : V → Prop} : xGet 2 12 (some (cObj 12 [f0, f1, f2, f3, f4])) K = K f2 := u_i0
theorem pgx12_12_2 {f0 : V} {f1 : V} {f2 : V} {f3 : V} {f4 : V} {v : V} {K : MC → Prop} : xPut 2 12 v (some (cObj 12 [f0, f1, f2, f3, f4])) K = K (cObj 12 [f0, f1, v, f3, f4]) := propext ⟨fun z => z.2.2.2, fun z => ⟨rfl, (by decide), (by show 2 < 5; decide), z⟩⟩
theorem gx12_12_3 {f0 : V} {f1 : V} {f2 : V} {f3 : V} {f4 : V} {K : V → Prop} : xGet 3 12 (some (cObj 12 [f0, f1, f2, f3, f4])) K = K f3 := u_i0
theorem pgx12_12_3 {f0 : V} {f1 : V} {f2 : V} {f3 : V} {f4 : V} {v : V} {K : MC → Prop} : xPut 3 12 v (some (cObj 12 [f0, f1, f2, f3, f4])) K = K (cObj 12 [f0, f1, f2, v, f4]) := propext ⟨fun z => z.2.2.2, fun z => ⟨rfl, (by decide), (by show 3 < 5; decide), z⟩⟩
theorem gx12_12_4 {f0 : V} {f1 : V} {f2 : V} {f3 : V} {f4 : V} {K : V → Prop} : xGet 4 12 (some (cObj 12 [f0, f1, f2, f3, f4])) K = K f4 := u_i0
theorem pgx12_12_4 {f0 : V} {f1 : V} {f2 : V} {f3 : V} {f4 : V} {v : V} {K : MC → Prop} : xPut 4 12 v (some (cObj 12 [f0, f1, f2, f3, f4])) K = K (cObj 12 [f0, f1, f2, f3, v]) := propext ⟨fun z => z.2.2.2, fun z => ⟨rfl, (by decide), (by show 4 < 5; decide), z⟩⟩
def GX12 := And.intro @gx12_12_0 (And.intro @gx12_12_1 (And.intro @gx12_12_2 (And.intro @gx12_12_3 (@gx12_12_4))))
def PX12 := And.intro @pgx12_12_0 (And.intro @pgx12_12_1 (And.intro @pgx12_12_2 (And.intro @pgx12_12_3 (@pgx12_12_4))))
theorem gx13_13_0 {f0 : V} {f1 : V} {f2 : V} {f3 : V} {f4 : V} {f5 : V} {f6 : V} {f7 : V} {f8 : V} {f9 : V} {f10 : V} {f11 : V} {f12 : V} {f13 : V} {f14 : V} {f15 : V} {f16 : V} {f17 : V} {f18 : V} {f19 : V} {f20 : V} {f21 : V} {f22 : V} {f23 : V} {K : V → Prop} : xGet 0 13 (some (cObj 13 [f0, f1, f2, f3, f4, f5, f6, f7, f8, f9, f10, f11, f12, f13, f14, f15, f16, f17, f18, f19, f20, f21, f22, f23])) K = K f0 := u_i0
theorem pgx13_13_0 {f0 : V} {f1 : V} {f2 : V} {f3 : V} {f4 : V} {f5 : V} {f6 : V} {f7 : V} {f8 : V} {f9 : V} {f10 : V} {f11 : V} {f12 : V} {f13 : V} {f14 : V} {f15 : V} {f16 : V} {f17 : V} {f18 : V} {f19 : V} {f20 : V} {f21 : V} {f22 : V} {f23 : V} {v : V} {K : MC → Prop} : xPut 0 13 v (some (cObj 13 [f0, f1, f2, f3, f4, f5, f6, f7, f8, f9, f10, f11, f12, f13, f14, f15, f16, f17, f18, f19, f20, f21, f22, f23])) K = K (cObj 13 [v, f1, f2, f3, f4, f5, f6, f7, f8, f9, f10, f11, f12, f13, f14, f15, f16, f17, f18, f19, f20, f21, f22, f23]) := propext ⟨fun z => z.2.2.2, fun z => ⟨rfl, (by decide), (by show 0 < 24; decide), z⟩⟩
theorem gx13_13_1 {f0 : V} {f1 : V} {f2 : V} {f3 : V} {f4 : V} {f5 : V} {f6 : V} {f7 : V} {f8 : V} {f9 : V} {f10 : V} {f11 : V} {f12 : V} {f13 : V} {f14 : V} {f15 : V} {f16 : V} {f17 : V} {f18 : V} {f19 : V} {f20 : V} {f21 : V} {f22 : V} {f23 : V} {K : V → Prop} : xGet 1 13 (some (cObj 13 [f0, f1, f2, f3, f4, f5, f6, f7, f8, f9, f10, f11, f12, f13, f14, f15, f16, f17, f18, f19, f20, f21, f22, f23])) K = K f1 := u_i0
theorem pgx13_13_1 {f0 : V} {f1 : V} {f2 : V} {f3 : V} {f4 : V} {f5 : V} {f6 : V} {f7 : V} {f8 : V} {f9 : V} {f10 : V} {f11 : V} {f12 : V} {f13 : V} {f14 : V} {f15 : V} {f16 : V} {f17 : V} {f18 : V} {f19 : V} {f20 : V} {f21 : V} {f22 : V} {f23 : V} {v : V} {K : MC → Prop} : xPut 1 13 v (some (cObj 13 [f0, f1, f2, f3, f4, f5, f6, f7, f8, f9, f10, f11, f12, f13, f14, f15, f16, f17, f18, f19, f20, f21, f22, f23])) K = K (cObj 13 [f0, v, f2, f3, f4, f5, f6, f7, f8, f9, f10, f11, f12, f13, f14, f15, f16, f17, f18, f19, f20, f21, f22, f23]) := propext ⟨fun z => z.2.2.2, fun z => ⟨rfl, (by decide), (by show 1 < 24; decide), z⟩⟩
theorem gx13_13_2 {f0 : V} {f1 : V} {f2 : V} {f3 : V} {f4 : V} {f5 : V} {f6 : V} {f7 : V} {f8 : V} {f9 : V} {f10 : V} {f11 : V} {f12 : V} {f13 : V} {f14 : V} {f15 : V} {f16 : V} {f17 : V} {f18 : V} {f19 : V} {f20 : V} {f21 : V} {f22 : V} {f23 : V} {K : V → Prop} : xGet 2 13 (some (cObj 13 [f0, f1, f2, f3, f4, f5, f6, f7, f8, f9, f10, f11, f12, f13, f14, f15, f16, f17, f18, f19, f20, f21, f22, f23])) K = K f2 := u_i0
theorem pgx13_13_2 {f0 : V} {f1 : V} {f2 : V} {f3 : V} {f4 : V} {f5 : V} {f6 : V} {f7 : V} {f8 : V} {f9 : V} {f10 : V} {f11 : V} {f12 : V} {f13 : V} {f14 : V} {f15 : V} {f16 : V} {f17 : V} {f18 : V} {f19 : V} {f20 : V} {f21 : V} {f22 : V} {f23 : V} {v : V} {K : MC → Prop} : xPut 2 13 v (some (cObj 13 [f0, f1, f2, f3, f4, f5, f6, f7, f8, f9, f10, f11, f12, f13, f14, f15, f16, f17, f18, f19, f20, f21, f22, f23])) K = K (cObj 13 [f0, f1, v, f3, f4, f5, f6, f7, f8, f9, f10, f11, f12, f13, f14, f15, f16, f17, f18, f19, f20, f21, f22, f23]) := propext ⟨fun z => z.2.2.2, fun z => ⟨rfl, (by decide), (by show 2 < 24; decide), z⟩⟩
theorem gx13_13_3 {f0 : V} {f1 : V} {f2 : V} {f3 : V} {f4 : V} {f5 : V} {f6 : V} {f7 : V} {f8 : V} {f9 : V} {f10 : V} {f11 : V} {f12 : V} {f13 : V} {f14 : V} {f15 : V} {f16 : V} {f17 : V} {f18 : V} {f19 : V} {f20 : V} {f21 : V} {f22 : V} {f23 : V} {K : V → Prop} : xGet 3 13 (some (cObj 13 [f0, f1, f2, f3, f4, f5, f6, f7, f8, f9, f10, f11, f12, f13, f14, f15, f16, f17, f18, f19, f20, f21, f22, f23])) K = K f3 := u_i0
theorem pgx13_13_3 {f0 : V} {f1 : V} {f2 : V} {f3 : V} {f4 : V} {f5 : V} {f6 : V} {f7 : V} {f8 : V} {f9 : V} {f10 : V} {f11 : V} {f12 : V} {f13 : V} {f14 : V} {f15 : V} {f16 : V} {f17 : V} {f18 : V} {f19 : V} {f20 : V} {f21 : V} {f22 : V} {f23 : V} {v : V} {K : MC → Prop} : xPut 3 13 v (some (cObj 13 [f0, f1, f2, f3, f4, f5, f6, f7, f8, f9, f10, f11, f12, f13, f14, f15, f16, f17, f18, f19, f20, f21, f22, f23])) K = K (cObj 13 [f0, f1, f2, v, f4, f5, f6, f7, f8, f9, f10, f11, f12, f13, f14, f15, f16, f17, f18, f19, f20, f21, f22, f23]) := propext ⟨fun z => z.2.2.2, fun z => ⟨rfl, (by decide), (by show 3 < 24; decide), z⟩⟩
theorem gx13_13_4 {f0 : V} {f1 : V} {f2 : V} {f3 : V} {f4 : V} {f5 : V} {f6 : V} {f7 : V} {f8 : V} {f9 : V} {f10 : V} {f11 : V} {f12 : V} {f13 : V} {f14 : V} {f15 : V} {f16 : V} {f17 : V} {f18 : V} {f19 : V} {f20 : V} {f21 : V} {f22 : V} {f23 : V} {K : V → Prop} : xGet 4 13 (some (cObj 13 [f0, f1, f2, f3, f4, f5, f6, f7, f8, f9, f10, f11, f12, f13, f14, f15, f16, f17, f18, f19, f20, f21, f22, f23])) K = K f4 := u_i0
theorem pgx13_13_4 {f0 : V} {f1 : V} {f2 : V} {f3 : V} {f4 : V} {f5 : V} {f6 : V} {f7 : V} {f8 : V} {f9 : V} {f10 : V} {f11 : V} {f12 : V} {f13 : V} {f14 : V} {f15 : V} {f16 : V} {f17 : V} {f18 : V} {f19 : V} {f20 : V} {f21 : V} {f22 : V} {f23 : V} {v : V} {K : MC → Prop} : xPut 4 13 v (some (cObj 13 [f0, f1, f2, f3, f4, f5, f6, f7, f8, f9, f10, f11, f12, f13, f14, f15, f16, f17, f18, f19, f20, f21, f22, f23])) K = K (cObj 13 [f0, f1, f2, f3, v, f5, f6, f7, f8, f9, f10, f11, f12, f13, f14, f15, f16, f17, f18, f19, f20, f21, f22, f23]) := propext ⟨fun z => z.2.2.2, fun z => ⟨rfl, (by decide), (by show 4 < 24; decide), z⟩⟩
theorem gx13_13_5 {f0 : V} {f1 : V} {f2 : V} {f3 : V} {f4 : V} {f5 : V} {f6 : V} {f7 : V} {f8 : V} {f9 : V} {f10 : V} {f11 : V} {f12 : V} {f13 : V} {f14 : V} {f15 : V} {f16 : V} {f17 : V} {f18 : V} {f19 : V} {f20 : V} {f21 : V} {f22 : V} {f23 : V} {K : V → Prop} : xGet 5 13 (some (cObj 13 [f0, f1, f2, f3, f4, f5, f6, f7, f8, f9, f10, f11, f12, f13, f14, f15, f16, f17, f18, f19, f20, f21, f22, f23])) K = K f5 := u_i0
theorem pgx13_13_5 {f0 : V} {f1 : V} {f2 : V} {f3 : V} {f4 : V} {f5 : V} {f6 : V} {f7 : V} {f8 : V} {f9 : V} {f10 : V} {f11 : V} {f12 : V} {f13 : V} {f14 : V} {f15 : V} {f16 : V} {f17 : V} {f18 : V} {f19 : V} {f20 : V} {f21 : V} {f22 : V} {f23 : V} {v : V} {K : MC → Prop} : xPut 5 13 v (some (cObj 13 [f0, f1, f2, f3, f4, f5, f6, f7, f8, f9, f10, f11, f12, f13, f14, f15, f16, f17, f18, f19, f20, f21, f22, f23])) K = K (cObj 13 [f0, f1, f2, f3, f4, v, f6, f7, f8, f9, f10, f11, f12, f13, f14, f15, f16, f17, f18, f19, f20, f21, f22, f23]) := propext ⟨fun z => z.2.2.2, fun z => ⟨rfl, (by decide), (by show 5 < 24; decide), z⟩⟩
theorem gx13_13_6 {f0 : V} {f1 : V} {f2 : V} {f3 : V} {f4 : V} {f5 : V} {f6 : V} {f7 : V} {f8 : V} {f9 : V} {f10 : V} {f11 : V} {f12 : V} {f13 : V} {f14 : V} {f15 : V} {f16 : V} {f17 : V} {f18 : V} {f19 : V} {f20 : V} {f21 : V} {f22 : V} {f23 : V} {K : V → Prop} : xGet 6 13 (some (cObj 13 [f0, f1, f2, f3, f4, f5, f6, f7, f8, f9, f10, f11, f12, f13, f14, f15, f16, f17, f18, f19, f20, f21, f22, f23])) K = K f6 := u_i0
theorem pgx13_13_6 {f0 : V} {f1 : V} {f2 : V} {f3 : V} {f4 : V} {f5 : V} {f6 : V} {f7 : V} {f8 : V} {f9 : V} {f10 : V} {f11 : V} {f12 : V} {f13 : V} {f14 : V} {f15 : V} {f16 : V} {f17 : V} {f18 : V} {f19 : V} {f20 : V} {f21 : V} {f22 : V} {f23 : V} {v : V} {K : MC → Prop} : xPut 6 13 v (some (cObj 13 [f0, f1, f2, f3, f4, f5, f6, f7, f8, f9, f10, f11, f12, f13, f14, f15, f16, f17, f18, f19, f20, f21, f22, f23])) K = K (cObj 13 [f0, f1, f2, f3, f4, f5, v, f7, f8, f9, f10, f11, f12, f13, f14, f15, f16, f17, f18, f19, f20, f21, f22, f23]) := propext ⟨fun z => z.2.2.2, fun z => ⟨rfl, (by decide), (by show 6 < 24; decide), z⟩⟩
theorem gx13_13_7 {f0 : V} {f1 : V} {f2 : V} {f3 : V} {f4 : V} {f5 : V} {f6 : V} {f7 : V} {f8 : V} {f9 : V} {f10 : V} {f11 : V} {f12 : V} {f13 : V} {f14 : V} {f15 : V} {f16 : V} {f17 : V} {f18 : V} {f19 : V} {f20 : V} {f21 : V} {f22 : V} {f23 : V} {K : V → Prop} : xGet 7 13 (some (cObj 13 [f0, f1, f2, f3, f4, f5, f6, f7, f8, f9, f10, f11, f12, f13, f14, f15, f16, f17, f18, f19, f20, f21, f22, f23])) K = K f7 := u_i0
theorem pgx13_13_7 {f0 : V} {f1 : V} {f2 : V} {f3 : V} {f4 : V} {f5 : V} {f6 : V} {f7 : V} {f8 : V} {f9 : V} {f10 : V} {f11 : V} {f12 : V} {f13 : V} {f14 : V} {f15 : V} {f16 : V} {f17 : V} {f18 : V} {f19 : V} {f20 : V} {f21 : V} {f22 : V} {f23 : V} {v : V} {K : MC → Prop} : xPut 7 13 v (some (cObj 13 [f0, f1, f2, f3, f4, f5, f6, f7, f8, f9, f10, f11, f12, f13, f14, f15, f16, f17, f18, f19, f20, f21, f22, f23])) K = K (cObj 13 [f0, f1, f2, f3, f4, f5, f6, v, f8, f9, f10, f11, f12, f13, f14, f15, f16, f17, f18, f19, f20, f21, f22, f23]) := propext ⟨fun z => z.2.2.2, fun z => ⟨rfl, (by decide), (by show 7 < 24; decide), z⟩⟩
theorem gx13_13_8 {f0 : V} {f1 : V} {f2 : V} {f3 : V} {f4 : V} {f5 : V} {f6 : V} {f7 : V} {f8 : V} {f9 : V} {f10 : V} {f11 : V} {f12 : V} {f13 : V} {f14 : V} {f15 : V} {f16 : V} {f17 : V} {f18 : V} {f19 : V} {f20 : V} {f21 : V} {f22 : V} {f23 : V} {K : V → Prop} : xGet 8 13 (some (cObj 13 [f0, f1, f2, f3, f4, f5, f6, f7, f8, f9, f10, f11, f12, f13, f14, f15, f16, f17, f18, f19, f20, f21, f22, f23])) K = K f8 := u_i0
theorem pgx13_13_8 {f0 : V} {f1 : V} {f2 : V} {f3 : V} {f4 : V} {f5 : V} {f6 : V} {f7 : V} {f8 : V} {f9 : V} {f10 : V} {f11 : V} {f12 : V} {f13 : V} {f14 : V} {f15 : V} {f16 : V} {f17 : V} {f18 : V} {f19 : V} {f20 : V} {f21 : V} {f22 : V} {f23 : V} {v : V} {K : MC → Prop} : xPut 8 13 v (some (cObj 13 [f0, f1, f2, f3, f4, f5, f6, f7, f8, f9, f10, f11, f12, f13, f14, f15, f16, f17, f18, f19, f20, f21, f22, f23])) K = K (cObj 13 [f0, f1, f2, f3, f4, f5, f6, f7, v, f9, f10, f11, f12, f13, f14, f15, f16, f17, f18, f19, f20, f21, f22, f23]) := propext ⟨fun z => z.2.2.2, fun z => ⟨rfl, (by decide), (by show 8 < 24; decide), z⟩⟩
theorem gx13_13_9 {f0 : V} {f1 : V} {f2 : V} {f3 : V} {f4 : V} {f5 : V} {f6 : V} {f7 : V} {f8 : V} {f9 : V} {f10 : V} {f11 : V} {f12 : V} {f13 : V} {f14 : V} {f15 : V} {f16 : V} {f17 : V} {f18 : V} {f19 : V} {f20 : V} {f21 : V} {f22 : V} {f23 : V} {K : V → Prop} : xGet 9 13 (some (cObj 13 [f0, f1, f2, f3, f4, f5, f6, f7, f8, f9, f10, f11, f12, f13, f14, f15, f16, f17, f18, f19, f20, f21, f22, f23])) K = K f9 := u_i0
theorem pgx13_13_9 {f0 : V} {f1 : V} {f2 : V} {f3 : V} {f4 : V} {f5 : V} {f6 : V} {f7 : V} {f8 : V} {f9 : V} {f10 : V} {f11 : V} {f12 : V} {f13 : V} {f14 : V} {f15 : V} {f16 : V} {f17 : V} {f18 : V} {f19 : V} {f20 : V} {f21 : V} {f22 : V} {f23 : V} {v : V} {K : MC → Prop} : xPut 9 13 v (some (cObj 13 [f0, f1, f2, f3, f4, f5, f6, f7, f8, f9, f10, f11, f12, f13, f14, f15, f16, f17, f18, f19, f20, f21, f22, f23])) K = K (cObj 13 [f0, f1, f2, f3, f4, f5, f6, f7, f8, v, f10, f11, f12, f13, f14, f15, f16, f17, f18, f19, f20, f21, f22, f23]) := propext ⟨fun z => z.2.2.2, fun z => ⟨rfl, (by decide), (by show 9 < 24; decide), z⟩⟩
theorem gx13_13_10 {f0 : V} {f1 : V} {f2 : V} {f3 : V} {f4 : V} {f5 : V} {f6 : V} {f7 : V} {f8 : V} {f9 : V} {f10 : V} {f11 : V} {f12 : V} {f13 : V} {f14 : V} {f15 : V} {f16 : V} {f17 : V} {f18 : V} {f19 : V} {f20 : V} {f21 : V} {f22 : V} {f23 : V} {K : V → Prop} : xGet 10 13 (some (cObj 13 [f0, f1, f2, f3, f4, f5, f6, f7, f8, f9, f10, f11, f12, f13, f14, f15, f16, f17, f18, f19, f20, f21, f22, f23])) K = K f10 := u_i0
theorem pgx13_13_10 {f0 : V} {f1 : V} {f2 : V} {f3 : V} {f4 : V} {f5 : V} {f6 : V} {f7 : V} {f8 : V} {f9 : V} {f10 : V} {f11 : V} {f12 : V} {f13 : V} {f14 : V} {f15 : V} {f16 : V} {f17 : V} {f18 : V} {f19 : V} {f20 : V} {f21 : V} {f22 : V} {f23 : V} {v : V} {K : MC → Prop} : xPut 10 13 v (some (cObj 13 [f0, f1, f2, f3, f4, f5, f6, f7, f8, f9, f10, f11, f12, f13, f14, f15, f16, f17, f18, f19, f20, f21, f22, f23])) K = K (cObj 13 [f0, f1, f2, f3, f4, f5, f6, f7, f8, f9, v, f11, f12, f13, f14, f15, f16, f17, f18, f19, f20, f21, f22, f23]) := propext ⟨fun z => z.2.2.2, fun z => ⟨rfl, (by decide), (by show 10 < 24; decide), z⟩⟩
theorem gx13_13_11 {f0 : V} {f1 : V} {f2 : V} {f3 : V} {f4 : V} {f5 : V} {f6 : V} {f7 : V} {f8 : V} {f9 : V} {f10 : V} {f11 : V} {f12 : V} {f13 : V} {f14 : V} {f15 : V} {f16 : V} {f17 : V} {f18 : V} {f19 : V} {f20 : V} {f21 : V} {f22 : V} {f23 : V} {K : V → Prop} : xGet 11 13 (some (cObj 13 [f0, f1, f2, f3, f4, f5, f6, f7, f8, f9, f10, f11, f12, f13, f14, f15, f16, f17, f18, f19, f20, f21, f22, f23])) K = K f11 := u_i0
theorem pgx13_13_11 {f0 : V} {f1 : V} {f2 : V} {f3 : V} {f4 : V} {f5 : V} {f6 : V} {f7 : V} {f8 : V} {f9 : V} {f10 : V} {f11 : V} {f12 : V} {f13 : V} {f14 : V} {f15 : V} {f16 : V} {f17 : V} {f18 : V} {f19 : V} {f20 : V} {f21 : V} {f22 : V} {f23 : V} {v : V} {K : MC → Prop} : xPut 11 13 v (some (cObj 13 [f0, f1, f2, f3, f4, f5, f6, f7, f8, f9, f10, f11, f12, f13, f14, f15, f16, f17, f18, f19, f20, f21, f22, f23])) K = K (cObj 13 [f0, f1, f2, f3, f4, f5, f6, f7, f8, f9, f10, v, f12, f13, f14, f15, f16, f17, f18, f19, f20, f21, f22, f23]) := propext ⟨fun z => z.2.2.2, fun z => ⟨rfl, (by decide), (by show 11 < 24; decide), z⟩⟩
theorem gx13_13_12 {f0 : V} {f1 : V} {f2 : V} {f3 : V} {f4 : V} {f5 : V} {f6 : V} {f7 : V} {f8 : V} {f9 : V} {f10 : V} {f11 : V} {f12 : V} {f13 : V} {f14 : V} {f15 : V} {f16 : V} {f17 : V} {f18 : V} {f19 : V} {f20 : V} {f21 : V} {f22 : V} {f23 : V} {K : V → Prop} : xGet 12 13 (some (cObj 13 [f0, f1, f2, f3, f4, f5, f6, f7, f8, f9, f10, f11, f12, f13, f14, f15, f16, f17, f18, f19, f20, f21, f22, f23])) K = K f12 := u_i0
theorem pgx13_13_12 {f0 : V} {f1 : V} {f2 : V} {f3 : V} {f4 : V} {f5 : V} {f6 : V} {f7 : V} {f8 : V} {f9 : V} {f10 : V} {f11 : V} {f12 : V} {f13 : V} {f14 : V} {f15 : V} {f16 : V} {f17 : V} {f18 : V} {f19 : V} {f20 : V} {f21 : V} {f22 : V} {f23 : V} {v : V} {K : MC → Prop} : xPut 12 13 v (some (cObj 13 [f0, f1, f2, f3, f4, f5, f6, f7, f8, f9, f10, f11, f12, f13, f14, f15, f16, f17, f18, f19, f20, f21, f22, f23])) K = K (cObj 13 [f0, f1, f2, f3, f4, f5, f6, f7, f8, f9, f10, f11, v, f13, f14, f15, f16, f17, f18, f19, f20, f21, f22, f23]) := propext ⟨fun z => z.2.2.2, fun z => ⟨rfl, (by decide), (by show 12 < 24; decide), z⟩⟩
theorem gx13_13_13 {f0 : V} {f1 : V} {f2 : V} {f3 : V} {f4 : V} {f5 : V} {f6 : V} {f7 : V} {f8 : V} {f9 : V} {f10 : V} {f11 : V} {f12 : V} {f13 : V} {f14 : V} {f15 : V} {f16 : V} {f17 : V} {f18 : V} {f19 : V} {f20 : V} {f21 : V} {f22 : V} {f23 : V} {K : V → Prop} : xGet 13 13 (some (cObj 13 [f0, f1, f2, f3, f4, f5, f6, f7, f8, f9, f10, f11, f12, f13, f14, f15, f16, f17, f18, f19, f20, f21, f22, f23])) K = K f13 := u_i0
theorem pgx13_13_13 {f0 : V} {f1 : V} {f2 : V} {f3 : V} {f4 : V} {f5 : V} {f6 : V} {f7 : V} {f8 : V} {f9 : V} {f10 : V} {f11 : V} {f12 : V} {f13 : V} {f14 : V} {f15 : V} {f16 : V} {f17 : V} {f18 : V} {f19 : V} {f20 : V} {f21 : V} {f22 : V} {f23 : V} {v : V} {K : MC → Prop} : xPut 13 13 v (some (cObj 13 [f0, f1, f2, f3, f4, f5, f6, f7, f8, f9, f10, f11, f12, f13, f14, f15, f16, f17, f18, f19, f20, f21, f22, f23])) K = K (cObj 13 [f0, f1, f2, f3, f4, f5, f6, f7, f8, f9, f10, f11, f12, v, f14, f15, f16, f17, f18, f19, f20, f21, f22, f23]) := propext ⟨fun z => z.2.2.2, fun z => ⟨rfl, (by decide), (by show 13 < 24; decide), z⟩⟩
theorem gx13_13_14 {f0 : V} {f1 : V} {f2 : V} {f3 : V} {f4 : V} {f5 : V} {f6 : V} {f7 : V} {f8 : V} {f9 : V} {f10 : V} {f11 : V} {f12 : V} {f13 : V} {f14 : V} {f15 : V} {f16 : V} {f17 : V} {f18 : V} {f19 : V} {f20 : V} {f21 : V} {f22 : V} {f23 : V} {K : V → Prop} : xGet 14 13 (some (cObj 13 [f0, f1, f2, f3, f4, f5, f6, f7, f8, f9, f10, f11, f12, f13, f14, f15, f16, f17, f18, f19, f20, f21, f22, f23])) K = K f14 := u_i0
theorem pgx13_13_14 {f0 : V} {f1 : V} {f2 : V} {f3 : V} {f4 : V} {f5 : V} {f6 : V} {f7 : V} {f8 : V} {f9 : V} {f10 : V} {f11 : V} {f12 : V} {f13 : V} {f14 : V} {f15 : V} {f16 : V} {f17 : V} {f18 : V} {f19 : V} {f20 : V} {f21 : V} {f22 : V} {f23 : V} {v : V} {K : MC → Prop} : xPut 14 13 v (some (cObj 13 [f0, f1, f2, f3, f4, f5, f6, f7, f8, f9, f10, f11, f12, f13, f14, f15, f16, f17, f18, f19, f20, f21, f22, f23])) K = K (cObj 13 [f0, f1, f2, f3, f4, f5, f6, f7, f8, f9, f10, f11, f12, f13, v, f15, f16, f17, f18, f19, f20, f21, f22, f23]) := propext ⟨fun z => z.2.2.2, fun z => ⟨rfl, (by decide), (by show 14 < 24; decide), z⟩⟩
theorem gx13_13_15 {f0 : V} {f1 : V} {f2 : V} {f3 : V} {f4 : V} {f5 : V} {f6 : V} {f7 : V} {f8 : V} {f9 : V} {f10 : V} {f11 : V} {f12 : V} {f13 : V} {f14 : V} {f15 : V} {f16 : V} {f17 : V} {f18 : V} {f19 : V} {f20 : V} {f21 : V} {f22 : V} {f23 : V} {K : V → Prop} : xGet 15 13 (some (cObj 13 [f0, f1, f2, f3, f4, f5, f6, f7, f8, f9, f10, f11, f12, f13, f14, f15, f16, f17, f18, f19, f20, f21, f22, f23])) K = K f15 := u_i0
theorem pgx13_13_15 {f0 : V} {f1 : V} {f2 : V} {f3 : V} {f4 : V} {f5 : V} {f6 : V} {f7 : V} {f8 : V} {f9 : V} {f10 : V} {f11 : V} {f12 : V} {f13 : V} {f14 : V} {f15 : V} {f16 : V} {f17 : V} {f18 : V} {f19 : V} {f20 : V} {f21 : V} {f22 : V} {f23 : V} {v : V} {K : MC → Prop} : xPut 15 13 v (some (cObj 13 [f0, f1, f2, f3, f4, f5, f6, f7, f8, f9, f10, f11, f12, f13, f14, f15, f16, f17, f18, f19, f20, f21, f22, f23])) K = K (cObj 13 [f0, f1, f2, f3, f4, f5, f6, f7, f8, f9, f10, f11, f12, f13, f14, v, f16, f17, f18, f19, f20, f21, f22, f23]) := propext ⟨fun z => z.2.2.2, fun z => ⟨rfl, (by decide), (by show 15 < 24; decide), z⟩⟩
theorem gx13_13_16 {f0 : V} {f1 : V} {f2 : V} {f3 : V} {f4 : V} {f5 : V} {f6 : V} {f7 : V} {f8 : V} {f9 : V} {f10 : V} {f11 : V} {f12 : V} {f13 : V} {f14 : V} {f15 : V} {f16 : V} {f17 : V} {f18 : V} {f19 : V} {f20 : V} {f21 : V} {f22 : V} {f23 : V} {K : V → Prop} : xGet 16 13 (some (cObj 13 [f0, f1, f2, f3, f4, f5, f6, f7, f8, f9, f10, f11, f12, f13, f14, f15, f16, f17, f18, f19, f20, f21, f22, f23])) K = K f16 := u_i0
theorem pgx13_13_16 {f0 : V} {f1 : V} {f2 : V} {f3 : V} {f4 : V} {f5 : V} {f6 : V} {f7 : V} {f8 : V} {f9 : V} {f10 : V} {f11 : V} {f12 : V} {f13 : V} {f14 : V} {f15 : V} {f16 : V} {f17 : V} {f18 : V} {f19 : V} {f20 : V} {f21 : V} {f22 : V} {f23 : V} {v : V} {K : MC → Prop} : xPut 16 13 v (some (cObj 13 [f0, f1, f2, f3, f4, f5, f6, f7, f8, f9, f10, f11, f12, f13, f14, f15, f16, f17, f18, f19, f20, f21, f22, f23])) K = K (cObj 13 [f0, f1, f2, f3, f4, f5, f6, f7, f8, f9, f10, f11, f12, f13, f14, f15, v, f17, f18, f19, f20, f21, f22, f23]) := propext ⟨fun z => z.2.2.2, fun z => ⟨rfl, (by decide), (by show 16 < 24; decide), z⟩⟩
theorem gx13_13_17 {f0 : V} {f1 : V} {f2 : V} {f3 : V} {f4 : V} {f5 : V} {f6 : V} {f7 : V} {f8 : V} {f9 : V} {f10 : V} {f11 : V} {f12 : V} {f13 : V} {f14 : V} {f15 : V} {f16 : V} {f17 : V} {f18 : V} {f19 : V} {f20 : V} {f21 : V} {f22 : V} {f23 : V} {K : V → Prop} : xGet 17 13 (some (cObj 13 [f0, f1, f2, f3, f4, f5, f6, f7, f8, f9, f10, f11, f12, f13, f14, f15, f16, f17, f18, f19, f20, f21, f22, f23])) K = K f17 := u_i0
theorem pgx13_13_17 {f0 : V} {f1 : V} {f2 : V} {f3 : V} {f4 : V} {f5 : V} {f6 : V} {f7 : V} {f8 : V} {f9 : V} {f10 : V} {f11 : V} {f12 : V} {f13 : V} {f14 : V} {f15 : V} {f16 : V} {f17 : V} {f18 : V} {f19 : V} {f20 : V} {f21 : V} {f22 : V} {f23 : V} {v : V} {K : MC → Prop} : xPut 17 13 v (some (cObj 13 [f0, f1, f2, f3, f4, f5, f6, f7, f8, f9, f10, f11, f12, f13, f14, f15, f16, f17, f18, f19, f20, f21, f22, f23])) K = K (cObj 13 [f0, f1, f2, f3, f4, f5, f6, f7, f8, f9, f10, f11, f12, f13, f14, f15, f16, v, f18, f19, f20, f21, f22, f23]) := propext ⟨fun z => z.2.2.2, fun z => ⟨rfl, (by decide), (by show 17 < 24; decide), z⟩⟩
theorem gx13_13_18 {f0 : V} {f1 : V} {f2 : V} {f3 : V} {f4 : V} {f5 : V} {f6 : V} {f7 : V} {f8 : V} {f9 : V} {f10 : V} {f11 : V} {f12 : V} {f13 : V} {f14 : V} {f15 : V} {f16 : V} {f17 : V} {f18 : V} {f19 : V} {f20 : V} {f21 : V} {f22 : V} {f23 : V} {K : V → Prop} : xGet 18 13 (some (cObj 13 [f0, f1, f2, f3, f4, f5, f6, f7, f8, f9, f10, f11, f12, f13, f14, f15, f16, f17, f18, f19, f20, f21, f22, f23])) K = K f18 := u_i0
theorem pgx13_13_18 {f0 : V} {f1 : V} {f2 : V} {f3 : V} {f4 : V} {f5 : V} {f6 : V} {f7 : V} {f8 : V} {f9 : V} {f10 : V} {f11 : V} {f12 : V} {f13 : V} {f14 : V} {f15 : V} {f16 : V} {f17 : V} {f18 : V} {f19 : V} {f20 : V} {f21 : V} {f22 : V} {f23 : V} {v : V} {K : MC → Prop} : xPut 18 13 v (some (cObj 13 [f0, f1, f2, f3, f4, f5, f6, f7, f8, f9, f10, f11, f12, f13, f14, f15, f16, f17, f18, f19, f20, f21, f22, f23])) K = K (cObj 13 [f0, f1, f2, f3, f4, f5, f6, f7, f8, f9, f10, f11, f12, f13, f14, f15, f16, f17, v, f19, f20, f21, f22, f23]) := propext ⟨fun z => z.2.2.2, fun z => ⟨rfl, (by decide), (by show 18 < 24; decide), z⟩⟩
theorem gx13_13_19 {f0 : V} {f1 : V} {f2 : V} {f3 : V} {f4 : V} {f5 : V} {f6 : V} {f7 : V} {f8 : V} {f9 : V} {f10 : V} {f11 : V} {f12 : V} {f13 : V} {f14 : V} {f15 : V} {f16 : V} {f17 : V} {f18 : V} {f19 : V} {f20 : V} {f21 : V} {f22 : V} {f23 : V} {K : V → Prop} : xGet 19 13 (some (cObj 13 [f0, f1, f2, f3, f4, f5, f6, f7, f8, f9, f10, f11, f12, f13, f14, f15, f16, f17, f18, f19, f20, f21, f22, f23])) K = K f19 := u_i0
theorem pgx13_13_19 {f0 : V} {f1 : V} {f2 : V} {f3 : V} {f4 : V} {f5 : V} {f6 : V} {f7 : V} {f8 : V} {f9 : V} {f10 : V} {f11 : V} {f12 : V} {f13 : V} {f14 : V} {f15 : V} {f16 : V} {f17 : V} {f18 : V} {f19 : V} {f20 : V} {f21 : V} {f22 : V} {f23 : V} {v : V} {K : MC → Prop} : xPut 19 13 v (some (cObj 13 [f0, f1, f2, f3, f4, f5, f6, f7, f8, f9, f10, f11, f12, f13, f14, f15, f16, f17, f18, f19, f20, f21, f22, f23])) K = K (cObj 13 [f0, f1, f2, f3, f4, f5, f6, f7, f8, f9, f10, f11, f12, f13, f14, f15, f16, f17, f18, v, f20, f21, f22, f23]) := propext ⟨fun z => z.2.2.2, fun z => ⟨rfl, (by decide), (by show 19 < 24; decide), z⟩⟩
theorem gx13_13_20 {f0 : V} {f1 : V} {f2 : V} {f3 : V} {f4 : V} {f5 : V} {f6 : V} {f7 : V} {f8 : V} {f9 : V} {f10 : V} {f11 : V} {f12 : V} {f13 : V} {f14 : V} {f15 : V} {f16 : V} {f17 : V} {f18 : V} {f19 : V} {f20 : V} {f21 : V} {f22 : V} {f23 : V} {K : V → Prop} : xGet 20 13 (some (cObj 13 [f0, f1, f2, f3, f4, f5, f6, f7, f8, f9, f10, f11, f12, f13, f14, f15, f16, f17, f18, f19, f20, f21, f22, f23])) K = K f20 := u_i0
theorem pgx13_13_20 {f0 : V} {f1 : V} {f2 : V} {f3 : V} {f4 : V} {f5 : V} {f6 : V} {f7 : V} {f8 : V} {f9 : V} {f10 : V} {f11 : V} {f12 : V} {f13 : V} {f14 : V} {f15 : V} {f16 : V} {f17 : V} {f18 : V} {f19 : V} {f20 : V} {f21 : V} {f22 : V} {f23 : V} {v : V} {K : MC → Prop} : xPut 20 13 v (some (cObj 13 [f0, f1, f2, f3, f4, f5, f6, f7, f8, f9, f10, f11, f12, f13, f14, f15, f16, f17, f18, f19, f20, f21, f22, f23])) K = K (cObj 13 [f0, f1, f2, f3, f4, f5, f6, f7, f8, f9, f10, f11, f12, f13, f14, f15, f16, f17, f18, f19, v, f21, f22, f23]) := propext ⟨fun z => z.2.2.2, fun z => ⟨rfl, (by decide), (by show 20 < 24; decide), z⟩⟩
theorem gx13_13_21 {f0 : V} {f1 : V} {f2 : V} {f3 : V} {f4 : V} {f5 : V} {f6 : V} {f7 : V} {f8 : V} {f9 : V} {f10 : V} {f11 : V} {f12 : V} {f13 : V} {f14 : V} {f15 : V} {f16 : V} {f17 : V} {f18 : V} {f19 : V} {f20 : V} {f21 : V} {f22 : V} {f23 : V} {K : V → Prop} : xGet 21 13 (some (cObj 13 [f0, f1, f2, f3, f4, f5, f6, f7, f8, f9, f10, f11, f12, f13, f14, f15, f16, f17, f18, f19, f20, f21, f22, f23])) K = K f21 := u_i0
theorem pgx13_13_21 {f0 : V} {f1 : V} {f2 : V} {f3 : V} {f4 : V} {f5 : V} {f6 : V} {f7 : V} {f8 : V} {f9 : V} {f10 : V} {f11 : V} {f12 : V} {f13 : V} {f14 : V} {f15 : V} {f16 : V} {f17 : V} {f18 : V} {f19 : V} {f20 : V} {f21 : V} {f22 : V} {f23 : V} {v : V} {K : MC → Prop} : xPut 21 13 v (some (cObj 13 [f0, f1, f2, f3, f4, f5, f6, f7, f8, f9, f10, f11, f12, f13, f14, f15, f16, f17, f18, f19, f20, f21, f22, f23])) K = K (cObj 13 [f0, f1, f2, f3, f4, f5, f6, f7, f8, f9, f10, f11, f12, f13, f14, f15, f16, f17, f18, f19, f20, v, f22, f23]) := propext ⟨fun z => z.2.2.2, fun z => ⟨rfl, (by decide), (by show 21 < 24; decide), z⟩⟩
theorem gx13_13_22 {f0 : V} {f1 : V} {f2 : V} {f3 : V} {f4 : V} {f5 : V} {f6 : V} {f7 : V} {f8 : V} {f9 : V} {f10 : V} {f11 : V} {f12 : V} {f13 : V} {f14 : V} {f15 : V} {f16 : V} {f17 : V} {f18 : V} {f19 : V} {f20 : V} {f21 : V} {f22 : V} {f23 : V} {K : V → Prop} : xGet 22 13 (some (cObj 13 [f0, f1, f2, f3, f4, f5, f6, f7, f8, f9, f10, f11, f12, f13, f14, f15, f16, f17, f18, f19, f20, f21, f22, f23])) K = K f22 := u_i0
theorem pgx13_13_22 {f0 : V} {f1 : V} {f2 : V} {f3 : V} {f4 : V} {f5 : V} {f6 : V} {f7 : V} {f8 : V} {f9 : V} {f10 : V} {f11 : V} {f12 : V} {f13 : V} {f14 : V} {f15 : V} {f16 : V} {f17 : V} {f18 : V} {f19 : V} {f20 : V} {f21 : V} {f22 : V} {f23 : V} {v : V} {K : MC → Prop} : xPut 22 13 v (some (cObj 13 [f0, f1, f2, f3, f4, f5, f6, f7, f8, f9, f10, f11, f12, f13, f14, f15, f16, f17, f18, f19, f20, f21, f22, f23])) K = K (cObj 13 [f0, f1, f2, f3, f4, f5, f6, f7, f8, f9, f10, f11, f12, f13, f14, f15, f16, f17, f18, f19, f20, f21, v, f23]) := propext ⟨fun z => z.2.2.2, fun z => ⟨rfl, (by decide), (by show 22 < 24; decide), z⟩⟩
theorem gx13_13_23 {f0 : V} {f1 : V} {f2 : V} {f3 : V} {f4 : V} {f5 : V} {f6 : V} {f7 : V} {f8 : V} {f9 : V} {f10 : V} {f11 : V} {f12 : V} {f13 : V} {f14 : V} {f15 : V} {f16 : V} {f17 : V} {f18 : V} {f19 : V} {f20 : V} {f21 : V} {f22 : V} {f23 : V} {K : V → Prop} : xGet 23 13 (some (cObj 13 [f0, f1, f2, f3, f4, f5, f6, f7, f8, f9, f10, f11, f12, f13, f14, f15, f16, f17, f18, f19, f20, f21, f22, f23])) K = K f23 := u_i0
theorem pgx13_13_23 {f0 : V} {f1 : V} {f2 : V} {f3 : V} {f4 : V} {f5 : V} {f6 : V} {f7 : V} {f8 : V} {f9 : V} {f10 : V} {f11 : V} {f12 : V} {f13 : V} {f14 : V} {f15 : V} {f16 : V} {f17 : V} {f18 : V} {f19 : V} {f20 : V} {f21 : V} {f22 : V} {f23 : V} {v : V} {K : MC → Prop} : xPut 23 13 v (some (cObj 13 [f0, f1, f2, f3, f4, f5, f6, f7, f8, f9, f10, f11, f12, f13, f14, f15, f16, f17, f18, f19, f20, f21, f22, f23])) K = K (cObj 13 [f0, f1, f2, f3, f4, f5, f6, f7, f8, f9, f10, f11, f12, f13, f14, f15, f16, f17, f18, f19, f20, f21, f22, v]) := propext ⟨fun z => z.2.2.2, fun z => ⟨rfl, (by decide), (by show 23 < 24; decide), z⟩⟩
def GX13 := And.intro @gx13_13_0 (And.intro @gx13_13_1 (And.intro @gx13_13_2 (And.intro @gx13_13_3 (And.intro @gx13_13_4 (And.intro @gx13_13_5 (And.intro @gx13_13_6 (And.intro @gx13_13_7 (And.intro @gx13_13_8 (And.intro @gx13_13_9 (And.intro @gx13_13_10 (And.intro @gx13_13_11 (And.intro @gx13_13_12 (And.intro @gx13_13_13 (And.intro @gx13_13_14 (And.intro @gx13_13_15 (And.intro @gx13_13_16 (And.intro @gx13_13_17 (And.intro @gx13_13_18 (And.intro @gx13_13_19 (And.intro @gx13_13_20 (And.intro @gx13_13_21 (And.intro @gx13_13_22 (@gx13_13_23)))))))))))))))))))))))
def PX13 := And.intro @pgx13_13_0 (And.intro @pgx13_13_1 (And.intro @pgx13_13_2 (And.intro @pgx13_13_3 (And.intro @pgx13_13_4 (And.intro @pgx13_13_5 (And.intro @pgx13_13_6 (And.intro @pgx13_13_7 (And.intro @pgx13_13_8 (And.intro @pgx13_13_9 (And.intro @pgx13_13_10 (And.intro @pgx13_13_11 (And.intro @pgx13_13_12 (And.intro @pgx13_13_13 (And.intro @pgx13_13_14 (And.intro @pgx13_13_15 (And.intro @pgx13_13_16 (And.intro @pgx13_13_17 (And.intro @pgx13_13_18 (And.intro @pgx13_13_19 (And.intro @pgx13_13_20 (And.intro @pgx13_13_21 (And.intro @pgx13_13_22 (@pgx13_13_23)))))))))))))))))))))))
theorem vs0_11 {K : Nat → Prop} : xSel (vsel 0 11) K = K 45 := rfl
theorem vs1_0 {K : Nat → Prop} : xSel (vsel 1 0) K = K 228 := rfl
theorem vs2_10 {K : Nat → Prop} : xSel (vsel 2 10) K = K 72 := rfl
theorem vs3_0 {K : Nat → Prop} : xSel (vsel 3 0) K = K 229 := rfl
theorem vs4_11 {K : Nat → Prop} : xSel (vsel 4 11) K = K 46 := rfl
theorem vs5_0 {K : Nat → Prop} : xSel (vsel 5 0) K = K 233 := rfl
theorem vs6_2 {K : Nat → Prop} : xSel (vsel 6 2) K = K 99 := rfl
theorem vs6_3 {K : Nat → Prop} : xSel (vsel 6 3) K = K 127 := rfl
theorem vs6_4 {K : Nat → Prop} : xSel (vsel 6 4) K = K 107 := rfl
theorem vs6_5 {K : Nat → Prop} : xSel (vsel 6 5) K = K 112 := rfl
theorem vs6_6 {K : Nat → Prop} : xSel (vsel 6 6) K = K 122 := rfl
theorem vs6_8 {K : Nat → Prop} : xSel (vsel 6 8) K = K 117 := rfl
theorem vs6_9 {K : Nat → Prop} : xSel (vsel 6 9) K = K 132 := rfl
theorem vs7_11 {K : Nat → Prop} : xSel (vsel 7 11) K = K 47 := rfl
theorem vs8_2 {K : Nat → Prop} : xSel (vsel 8 2) K = K 100 := rfl
theorem vs8_3 {K : Nat → Prop} : xSel (vsel 8 3) K = K 100 := rfl
theorem vs8_4 {K : Nat → Prop} : xSel (vsel 8 4) K = K 100 := rfl
theorem vs8_5 {K : Nat → Prop} : xSel (vsel 8 5) K = K 100 := rfl
theorem vs8_6 {K : Nat → Prop} : xSel (vsel 8 6) K = K 100 := rfl
theorem vs8_8 {K : Nat → Prop} : xSel (vsel 8 8) K = K 100 := rfl
theorem vs8_9 {K : Nat → Prop} : xSel (vsel 8 9) K = K 100 := rfl
theorem vs9_11 {K : Nat → Prop} : xSel (vsel 9 11) K = K 48 := rfl
theorem vs10_10 {K : Nat → Prop} : xSel (vsel 10 10) K = K 82 := rfl
theorem vs11_11 {K : Nat → Prop} : xSel (vsel 11 11) K = K 49 := rfl
theorem vs12_9 {K : Nat → Prop} : xSel (vsel 12 9) K = K 134 := rfl
theorem vs13_11 {K : Nat → Prop} : xSel (vsel 13 11) K = K 51 := rfl
theorem vs14_11 {K : Nat → Prop} : xSel (vsel 14 11) K = K 52 := rfl
theorem vs15_12 {K : Nat → Prop} : xSel (vsel 15 12) K = K 16 := rfl
theorem vs16_11 {K : Nat → Prop} : xSel (vsel 16 11) K = K 53 := rfl
theorem vs17_11 {K : Nat → Prop} : xSel (vsel 17 11) K = K 54 := rfl
theorem vs18_1 {K : Nat → Prop} : xSel (vsel 18 1) K = K 97 := rfl
theorem vs19_11 {K : Nat → Prop} : xSel (vsel 19 11) K = K 57 := rfl
theorem vs20_11 {K : Nat → Prop} : xSel (vsel 20 11) K = K 58 := rfl
theorem vs21_11 {K : Nat → Prop} : xSel (vsel 21 11) K = K 59 := rfl
theorem vs22_11 {K : Nat → Prop} : xSel (vsel 22 11) K = K 60 := rfl
theorem vs23_11 {K : Nat → Prop} : xSel (vsel 23 11) K = K 66 := rfl
theorem vs24_11 {K : Nat → Prop} : xSel (vsel 24 11) K = K 68 := rfl
theorem vs25_11 {K : Nat → Prop} : xSel (vsel 25 11) K = K 62 := rfl
theorem vs26_11 {K : Nat → Prop} : xSel (vsel 26 11) K = K 69 := rfl
theorem vs27_7 {K : Nat → Prop} : xSel (vsel 27 7) K = K 88 := rfl
theorem vs28_7 {K : Nat → Prop} : xSel (vsel 28 7) K = K 89 := rfl
theorem vs29_7 {K : Nat → Prop} : xSel (vsel 29 7) K = K 90 := rfl
theorem vs30_2 {K : Nat → Prop} : xSel (vsel 30 2) K = K 102 := rfl
theorem vs30_3 {K : Nat → Prop} : xSel (vsel 30 3) K = K 129 := rfl
theorem vs30_4 {K : Nat → Prop} : xSel (vsel 30 4) K = K 109 := rfl
theorem vs30_5 {K : Nat → Prop} : xSel (vsel 30 5) K = K 114 := rfl
theorem vs30_6 {K : Nat → Prop} : xSel (vsel 30 6) K = K 124 := rfl
theorem vs30_8 {K : Nat → Prop} : xSel (vsel 30 8) K = K 119 := rfl
theorem vs30_9 {K : Nat → Prop} : xSel (vsel 30 9) K = K 135 := rfl
theorem vs31_11 {K : Nat → Prop} : xSel (vsel 31 11) K = K 70 := rfl
theorem vs32_7 {K : Nat → Prop} : xSel (vsel 32 7) K = K 87 := rfl
theorem vs33_7 {K : Nat → Prop} : xSel (vsel 33 7) K = K 91 := rfl
theorem vs34_7 {K : Nat → Prop} : xSel (vsel 34 7) K = K 92 := rfl
theorem vs35_2 {K : Nat → Prop} : xSel (vsel 35 2) K = K 103 := rfl
theorem vs35_3 {K : Nat → Prop} : xSel (vsel 35 3) K = K 130 := rfl
theorem vs35_4 {K : Nat → Prop} : xSel (vsel 35 4) K = K 110 := rfl
theorem vs35_5 {K : Nat → Prop} : xSel (vsel 35 5) K = K 103 := rfl
theorem vs35_6 {K : Nat → Prop} : xSel (vsel 35 6) K = K 110 := rfl
theorem vs35_8 {K : Nat → Prop} : xSel (vsel 35 8) K = K 103 := rfl
theorem vs35_9 {K : Nat → Prop} : xSel (vsel 35 9) K = K 103 := rfl
theorem vs36_2 {K : Nat → Prop} : xSel (vsel 36 2) K = K 104 := rfl
theorem vs36_3 {K : Nat → Prop} : xSel (vsel 36 3) K = K 115 := rfl
theorem vs36_4 {K : Nat → Prop} : xSel (vsel 36 4) K = K 104 := rfl
theorem vs36_5 {K : Nat → Prop} : xSel (vsel 36 5) K = K 115 := rfl
theorem vs36_6 {K : Nat → Prop} : xSel (vsel 36 6) K = K 104 := rfl
theorem vs36_8 {K : Nat → Prop} : xSel (vsel 36 8) K = K 104 := rfl
theorem vs36_9 {K : Nat → Prop} : xSel (vsel 36 9) K = K 136 := rfl
theorem vs37_2 {K : Nat → Prop} : xSel (vsel 37 2) K = K 105 := rfl
theorem vs37_3 {K : Nat → Prop} : xSel (vsel 37 3) K = K 105 := rfl
theorem vs37_4 {K : Nat → Prop} : xSel (vsel 37 4) K = K 105 := rfl
theorem vs37_5 {K : Nat → Prop} : xSel (vsel 37 5) K = K 105 := rfl
theorem vs37_6 {K : Nat → Prop} : xSel (vsel 37 6) K = K 125 := rfl
theorem vs37_8 {K : Nat → Prop} : xSel (vsel 37 8) K = K 120 := rfl
theorem vs37_9 {K : Nat → Prop} : xSel (vsel 37 9) K = K 120 := rfl
theorem vs38_7 {K : Nat → Prop} : xSel (vsel 38 7) K = K 93 := rfl
theorem vs39_0 {K : Nat → Prop} : xSel (vsel 39 0) K = K 235 := rfl
theorem vs40_2 {K : Nat → Prop} : xSel (vsel 40 2) K = K 101 := rfl
theorem vs40_3 {K : Nat → Prop} : xSel (vsel 40 3) K = K 128 := rfl
theorem vs40_4 {K : Nat → Prop} : xSel (vsel 40 4) K = K 108 := rfl
theorem vs40_5 {K : Nat → Prop} : xSel (vsel 40 5) K = K 113 := rfl
theorem vs40_6 {K : Nat → Prop} : xSel (vsel 40 6) K = K 123 := rfl
theorem vs40_8 {K : Nat → Prop} : xSel (vsel 40 8) K = K 118 := rfl
theorem vs40_9 {K : Nat → Prop} : xSel (vsel 40 9) K = K 133 := rfl
theorem vs41_0 {K : Nat → Prop} : xSel (vsel 41 0) K = K 236 := rfl
theorem vs42_1 {K : Nat → Prop} : xSel (vsel 42 1) K = K 95 := rfl
theorem vs43_7 {K : Nat → Prop} : xSel (vsel 43 7) K = K 86 := rfl
theorem vs44_11 {K : Nat → Prop} : xSel (vsel 44 11) K = K 55 := rfl
theorem vs45_11 {K : Nat → Prop} : xSel (vsel 45 11) K = K 56 := rfl
theorem vs46_1 {K : Nat → Prop} : xSel (vsel 46 1) K = K 96 := rfl
theorem vs47_11 {K : Nat → Prop} : xSel (vsel 47 11) K = K 61 := rfl
theorem vs48_10 {K : Nat → Prop} : xSel (vsel 48 10) K = K 73 := rfl
theorem vs49_10 {K : Nat → Prop} : xSel (vsel 49 10) K = K 74 := rfl
theorem vs50_10 {K : Nat → Prop} : xSel (vsel 50 10) K = K 75 := rfl
theorem vs51_10 {K : Nat → Prop} : xSel (vsel 51 10) K = K 76 := rfl
theorem vs52_10 {K : Nat → Prop} : xSel (vsel 52 10) K = K 77 := rfl
theorem vs53_10 {K : Nat → Prop} : xSel (vsel 53 10) K = K 78 := rfl
theorem vs54_10 {K : Nat → Prop} : xSel (vsel 54 10) K = K 80 := rfl
theorem vs55_10 {K : Nat → Prop} : xSel (vsel 55 10) K = K 79 := rfl
theorem vs56_10 {K : Nat → Prop} : xSel (vsel 56 10) K = K 81 := rfl
theorem vs57_10 {K : Nat → Prop} : xSel (vsel 57 10) K = K 83 := rfl
theorem vs58_10 {K : Nat → Prop} : xSel (vsel 58 10) K = K 84 := rfl
theorem vs59_11 {K : Nat → Prop} : xSel (vsel 59 11) K = K 50 := rfl
theorem vs60_6 {K : Nat → Prop} : xSel (vsel 60 6) K = K 110 := rfl
theorem vs61_13 {K : Nat → Prop} : xSel (vsel 61 13) K = K 141 := rfl
theorem vs62_13 {K : Nat → Prop} : xSel (vsel 62 13) K = K 142 := rfl
theorem vs63_13 {K : Nat → Prop} : xSel (vsel 63 13) K = K 143 := rfl
theorem vs64_13 {K : Nat → Prop} : xSel (vsel 64 13) K = K 147 := rfl
theorem vs65_13 {K : Nat → Prop} : xSel (vsel 65 13) K = K 144 := rfl
theorem vs66_13 {K : Nat → Prop} : xSel (vsel 66 13) K = K 146 := rfl
theorem vs67_13 {K : Nat → Prop} : xSel (vsel 67 13) K = K 145 := rfl
theorem vs68_13 {K : Nat → Prop} : xSel (vsel 68 13) K = K 148 := rfl
theorem vs69_13 {K : Nat → Prop} : xSel (vsel 69 13) K = K 151 := rfl
theorem vs70_13 {K : Nat → Prop} : xSel (vsel 70 13) K = K 149 := rfl
theorem vs71_13 {K : Nat → Prop} : xSel (vsel 71 13) K = K 150 := rfl
theorem vs72_13 {K : Nat → Prop} : xSel (vsel 72 13) K = K 152 := rfl
theorem vs73_13 {K : Nat → Prop} : xSel (vsel 73 13) K = K 156 := rfl
theorem vs74_13 {K : Nat → Prop} : xSel (vsel 74 13) K = K 158 := rfl
theorem vs75_13 {K : Nat → Prop} : xSel (vsel 75 13) K = K 159 := rfl
theorem vs76_13 {K : Nat → Prop} : xSel (vsel 76 13) K = K 162 := rfl
theorem vs77_13 {K : Nat → Prop} : xSel (vsel 77 13) K = K 161 := rfl
theorem vs78_13 {K : Nat → Prop} : xSel (vsel 78 13) K = K 163 := rfl
theorem vs79_13 {K : Nat → Prop} : xSel (vsel 79 13) K = K 165 := rfl
theorem vs80_13 {K : Nat → Prop} : xSel (vsel 80 13) K = K 170 := rfl
theorem vs81_13 {K : Nat → Prop} : xSel (vsel 81 13) K = K 172 := rfl
theorem vs82_13 {K : Nat → Prop} : xSel (vsel 82 13) K = K 173 := rfl
theorem vs83_13 {K : Nat → Prop} : xSel (vsel 83 13) K = K 174 := rfl
theorem vs84_13 {K : Nat → Prop} : xSel (vsel 84 13) K = K 175 := rfl
theorem vs85_13 {K : Nat → Prop} : xSel (vsel 85 13) K = K 179 := rfl
theorem vs86_13 {K : Nat → Prop} : xSel (vsel 86 13) K = K 176 := rfl
theorem vs87_13 {K : Nat → Prop} : xSel (vsel 87 13) K = K 177 := rfl
theorem vs88_13 {K : Nat → Prop} : xSel (vsel 88 13) K = K 178 := rfl
theorem vs89_13 {K : Nat → Prop} : xSel (vsel 89 13) K = K 182 := rfl
theorem vs90_13 {K : Nat → Prop} : xSel (vsel 90 13) K = K 183 := rfl
theorem vs91_13 {K : Nat → Prop} : xSel (vsel 91 13) K = K 184 := rfl
theorem vs92_13 {K : Nat → Prop} : xSel (vsel 92 13) K = K 186 := rfl
theorem vs93_13 {K : Nat → Prop} : xSel (vsel 93 13) K = K 189 := rfl
theorem vs94_13 {K : Nat → Prop} : xSel (vsel 94 13) K = K 190 := rfl
theorem vs95_13 {K : Nat → Prop} : xSel (vsel 95 13) K = K 192 := rfl
theorem vs96_13 {K : Nat → Prop} : xSel (vsel 96 13) K = K 193 := rfl
theorem vs97_13 {K : Nat → Prop} : xSel (vsel 97 13) K = K 195 := rfl
theorem vs98_13 {K : Nat → Prop} : xSel (vsel 98 13) K = K 197 := rfl
theorem vs99_13 {K : Nat → Prop} : xSel (vsel 99 13) K = K 200 := rfl
theorem vs100_13 {K : Nat → Prop} : xSel (vsel 100 13) K = K 201 := rfl
theorem vs101_13 {K : Nat → Prop} : xSel (vsel 101 13) K = K 209 := rfl
theorem vs102_13 {K : Nat → Prop} : xSel (vsel 102 13) K = K 213 := rfl
theorem vs103_13 {K : Nat → Prop} : xSel (vsel 103 13) K = K 217 := rfl
theorem vs104_13 {K : Nat → Prop} : xSel (vsel 104 13) K = K 219 := rfl
theorem vs105_13 {K : Nat → Prop} : xSel (vsel 105 13) K = K 215 := rfl
theorem vs106_13 {K : Nat → Prop} : xSel (vsel 106 13) K = K 216 := rfl
theorem vs107_13 {K : Nat → Prop} : xSel (vsel 107 13) K = K 218 := rfl
theorem vs108_13 {K : Nat → Prop} : xSel (vsel 108 13) K = K 220 := rfl
theorem vs109_12 {K : Nat → Prop} : xSel (vsel 109 12) K = K 1 := rfl
theorem vs110_13 {K : Nat → Prop} : xSel (vsel 110 13) K = K 138 := rfl
theorem vs111_12 {K : Nat → Prop} : xSel (vsel 111 12) K = K 2 := rfl
theorem vs112_13 {K : Nat → Prop} : xSel (vsel 112 13) K = K 140 := rfl
theorem vs113_12 {K : Nat → Prop} : xSel (vsel 113 12) K = K 4 := rfl
theorem vs114_13 {K : Nat → Prop} : xSel (vsel 114 13) K = K 153 := rfl
theorem vs115_12 {K : Nat → Prop} : xSel (vsel 115 12) K = K 7 := rfl
theorem vs116_13 {K : Nat → Prop} : xSel (vsel 116 13) K = K 155 := rfl
theorem vs117_12 {K : Nat → Prop} : xSel (vsel 117 12) K = K 8 := rfl
theorem vs118_13 {K : Nat → Prop} : xSel (vsel 118 13) K = K 157 := rfl
theorem vs119_12 {K : Nat → Prop} : xSel (vsel 119 12) K = K 9 := rfl
theorem vs120_13 {K : Nat → Prop} : xSel (vsel 120 13) K = K 164 := rfl
theorem vs121_12 {K : Nat → Prop} : xSel (vsel 121 12) K = K 10 := rfl
theorem vs122_13 {K : Nat → Prop} : xSel (vsel 122 13) K = K 166 := rfl
theorem vs123_12 {K : Nat → Prop} : xSel (vsel 123 12) K = K 11 := rfl
theorem vs124_13 {K : Nat → Prop} : xSel (vsel 124 13) K = K 167 := rfl
theorem vs125_12 {K : Nat → Prop} : xSel (vsel 125 12) K = K 12 := rfl
theorem vs126_13 {K : Nat → Prop} : xSel (vsel 126 13) K = K 168 := rfl
theorem vs127_12 {K : Nat → Prop} : xSel (vsel 127 12) K = K 14 := rfl
theorem vs128_13 {K : Nat → Prop} : xSel (vsel 128 13) K = K 169 := rfl
theorem vs129_12 {K : Nat → Prop} : xSel (vsel 129 12) K = K 15 := rfl
theorem vs130_13 {K : Nat → Prop} : xSel (vsel 130 13) K = K 171 := rfl
theorem vs131_12 {K : Nat → Prop} : xSel (vsel 131 12) K = K 17 := rfl
theorem vs132_13 {K : Nat → Prop} : xSel (vsel 132 13) K = K 180 := rfl
theorem vs133_12 {K : Nat → Prop} : xSel (vsel 133 12) K = K 18 := rfl
theorem vs134_13 {K : Nat → Prop} : xSel (vsel 134 13) K = K 181 := rfl
theorem vs135_12 {K : Nat → Prop} : xSel (vsel 135 12) K = K 19 := rfl
theorem vs136_13 {K : Nat → Prop} : xSel (vsel 136 13) K = K 185 := rfl
theorem vs137_12 {K : Nat → Prop} : xSel (vsel 137 12) K = K 21 := rfl
theorem vs138_13 {K : Nat → Prop} : xSel (vsel 138 13) K = K 187 := rfl
theorem vs139_12 {K : Nat → Prop} : xSel (vsel 139 12) K = K 22 := rfl
theorem vs140_13 {K : Nat → Prop} : xSel (vsel 140 13) K = K 188 := rfl
theorem vs141_12 {K : Nat → Prop} : xSel (vsel 141 12) K = K 23 := rfl
theorem vs142_13 {K : Nat → Prop} : xSel (vsel 142 13) K = K 191 := rfl
theorem vs143_12 {K : Nat → Prop} : xSel (vsel 143 12) K = K 24 := rfl
theorem vs144_13 {K : Nat → Prop} : xSel (vsel 144 13) K = K 194 := rfl
theorem vs145_12 {K : Nat → Prop} : xSel (vsel 145 12) K = K 25 := rfl
theorem vs146_13 {K : Nat → Prop} : xSel (vsel 146 13) K = K 196 := rfl
theorem vs147_12 {K : Nat → Prop} : xSel (vsel 147 12) K = K 26 := rfl
theorem vs148_13 {K : Nat → Prop} : xSel (vsel 148 13) K = K 198 := rfl
theorem vs149_12 {K : Nat → Prop} : xSel (vsel 149 12) K = K 27 := rfl
theorem vs150_13 {K : Nat → Prop} : xSel (vsel 150 13) K = K 199 := rfl
theorem vs151_12 {K : Nat → Prop} : xSel (vsel 151 12) K = K 28 := rfl
theorem vs152_13 {K : Nat → Prop} : xSel (vsel 152 13) K = K 202 := rfl
theorem vs153_12 {K : Nat → Prop} : xSel (vsel 153 12) K = K 29 := rfl
theorem vs154_13 {K : Nat → Prop} : xSel (vsel 154 13) K = K 203 := rfl
theorem vs155_12 {K : Nat → Prop} : xSel (vsel 155 12) K = K 30 := rfl
theorem vs156_13 {K : Nat → Prop} : xSel (vsel 156 13) K = K 204 := rfl
theorem vs157_12 {K : Nat → Prop} : xSel (vsel 157 12) K = K 32 := rfl
theorem vs158_13 {K : Nat → Prop} : xSel (vsel 158 13) K = K 206 := rfl
theorem vs159_12 {K : Nat → Prop} : xSel (vsel 159 12) K = K 33 := rfl
theorem vs160_13 {K : Nat → Prop} : xSel (vsel 160 13) K = K 207 := rfl
theorem vs161_12 {K : Nat → Prop} : xSel (vsel 161 12) K = K 34 := rfl
theorem vs162_13 {K : Nat → Prop} : xSel (vsel 162 13) K = K 208 := rfl
theorem vs163_12 {K : Nat → Prop} : xSel (vsel 163 12) K = K 35 := rfl
theorem vs164_13 {K : Nat → Prop} : xSel (vsel 164 13) K = K 210 := rfl
theorem vs165_12 {K : Nat → Prop} : xSel (vsel 165 12) K = K 36 := rfl
theorem vs166_13 {K : Nat → Prop} : xSel (vsel 166 13) K = K 211 := rfl
theorem vs167_12 {K : Nat → Prop} : xSel (vsel 167 12) K = K 37 := rfl
theorem vs168_13 {K : Nat → Prop} : xSel (vsel 168 13) K = K 212 := rfl
theorem vs169_12 {K : Nat → Prop} : xSel (vsel 169 12) K = K 38 := rfl
theorem vs170_13 {K : Nat → Prop} : xSel (vsel 170 13) K = K 221 := rfl
theorem vs171_12 {K : Nat → Prop} : xSel (vsel 171 12) K = K 39 := rfl
theorem vs172_13 {K : Nat → Prop} : xSel (vsel 172 13) K = K 222 := rfl
theorem vs173_12 {K : Nat → Prop} : xSel (vsel 173 12) K = K 41 := rfl
theorem vs174_13 {K : Nat → Prop} : xSel (vsel 174 13) K = K 223 := rfl
theorem vs175_12 {K : Nat → Prop} : xSel (vsel 175 12) K = K 42 := rfl
theorem vs176_13 {K : Nat → Prop} : xSel (vsel 176 13) K = K 224 := rfl
theorem vs177_12 {K : Nat → Prop} : xSel (vsel 177 12) K = K 43 := rfl
theorem vs178_13 {K : Nat → Prop} : xSel (vsel 178 13) K = K 225 := rfl
theorem vs179_0 {K : Nat → Prop} : xSel (vsel 179 0) K = K 230 := rfl
theorem vs180_0 {K : Nat → Prop} : xSel (vsel 180 0) K = K 231 := rfl
theorem vs181_0 {K : Nat → Prop} : xSel (vsel 181 0) K = K 232 := rfl
theorem vs182_0 {K : Nat → Prop} : xSel (vsel 182 0) K = K 234 := rfl
def VS0 := And.intro @vs1_0 (And.intro @vs3_0 (And.intro @vs5_0 (And.intro @vs39_0 (And.intro @vs41_0 (And.intro @vs179_0 (And.intro @vs180_0 (And.intro @vs181_0 (@vs182_0))))))))
def VS1 := And.intro @vs18_1 (And.intro @vs42_1 (@vs46_1))
def VS2 := And.intro @vs6_2 (And.intro @vs8_2 (And.intro @vs30_2 (And.intro @vs35_2 (And.intro @vs36_2 (And.intro @vs37_2 (@vs40_2))))))
def VS3 := And.intro @vs6_3 (And.intro @vs8_3 (And.intro @vs30_3 (And.intro @vs35_3 (And.intro @vs36_3 (And.intro @vs37_3 (@vs40_3))))))
def VS4 := And.intro @vs6_4 (And.intro @vs8_4 (And.intro @vs30_4 (And.intro @vs35_4 (And.intro @vs36_4 (And.intro @vs37_4 (@vs40_4))))))
def VS5 := And.intro @vs6_5 (And.intro @vs8_5 (And.intro @vs30_5 (And.intro @vs35_5 (And.intro @vs36_5 (And.intro @vs37_5 (@vs40_5))))))
def VS6 := And.intro @vs6_6 (And.intro @vs8_6 (And.intro @vs30_6 (And.intro @vs35_6 (And.intro @vs36_6 (And.intro @vs37_6 (And.intro @vs40_6 (@vs60_6)))))))
def VS7 := And.intro @vs27_7 (And.intro @vs28_7 (And.intro @vs29_7 (And.intro @vs32_7 (And.intro @vs33_7 (And.intro @vs34_7 (And.intro @vs38_7 (@vs43_7)))))))
def VS8 := And.intro @vs6_8 (And.intro @vs8_8 (And.intro @vs30_8 (And.intro @vs35_8 (And.intro @vs36_8 (And.intro @vs37_8 (@vs40_8))))))
def VS9 := And.intro @vs6_9 (And.intro @vs8_9 (And.intro @vs12_9 (And.intro @vs30_9 (And.intro @vs35_9 (And.intro @vs36_9 (And.intro @vs37_9 (@vs40_9)))))))
def VS10 := And.intro @vs2_10 (And.intro @vs10_10 (And.intro @vs48_10 (And.intro @vs49_10 (And.intro @vs50_10 (And.intro @vs51_10 (And.intro @vs52_10 (And.intro @vs53_10 (And.intro @vs54_10 (And.intro @vs55_10 (And.intro @vs56_10 (And.intro @vs57_10 (@vs58_10))))))))))))
def VS11 := And.intro @vs0_11 (And.intro @vs4_11 (And.intro @vs7_11 (And.intro @vs9_11 (And.intro @vs11_11 (And.intro @vs13_11 (And.intro @vs14_11 (And.intro @vs16_11 (And.intro @vs17_11 (And.intro @vs19_11 (And.intro @vs20_11 (And.intro @vs21_11 (And.intro @vs22_11 (And.intro @vs23_11 (And.intro @vs24_11 (And.intro @vs25_11 (And.intro @vs26_11 (And.intro @vs31_11 (And.intro @vs44_11 (And.intro @vs45_11 (And.intro @vs47_11 (@vs59_11)))))))))))))))))))))
def VS12 := And.intro @vs15_12 (And.intro @vs109_12 (And.intro @vs111_12 (And.intro @vs113_12 (And.intro @vs115_12 (And.intro @vs117_12 (And.intro @vs119_12 (And.intro @vs121_12 (And.intro @vs123_12 (And.intro @vs125_12 (And.intro @vs127_12 (And.intro @vs129_12 (And.intro @vs131_12 (And.intro @vs133_12 (And.intro @vs135_12 (And.intro @vs137_12 (And.intro @vs139_12 (And.intro @vs141_12 (And.intro @vs143_12 (And.intro @vs145_12 (And.intro @vs147_12 (And.intro @vs149_12 (And.intro @vs151_12 (And.intro @vs153_12 (And.intro @vs155_12 (And.intro @vs157_12 (And.intro @vs159_12 (And.intro @vs161_12 (And.intro @vs163_12 (And.intro @vs165_12 (And.intro @vs167_12 (And.intro @vs169_12 (And.intro @vs171_12 (And.intro @vs173_12 (And.intro @vs175_12 (@vs177_12)))))))))))))))))))))))))))))))))))
def VS13 := And.intro @vs61_13 (And.intro @vs62_13 (And.intro @vs63_13 (And.intro @vs64_13 (And.intro @vs65_13 (And.intro @vs66_13 (And.intro @vs67_13 (And.intro @vs68_13 (And.intro @vs69_13 (And.intro @vs70_13 (And.intro @vs71_13 (And.intro @vs72_13 (And.intro @vs73_13 (And.intro @vs74_13 (And.intro @vs75_13 (And.intro @vs76_13 (And.intro @vs77_13 (And.intro @vs78_13 (And.intro @vs79_13 (And.intro @vs80_13 (And.intro @vs81_13 (And.intro @vs82_13 (And.intro @vs83_13 (And.intro @vs84_13 (And.intro @vs85_13 (And.intro @vs86_13 (And.intro @vs87_13 (And.intro @vs88_13 (And.intro @vs89_13 (And.intro @vs90_13 (And.intro @vs91_13 (And.intro @vs92_13 (And.intro @vs93_13 (And.intro @vs94_13 (And.intro @vs95_13 (And.intro @vs96_13 (And.intro @vs97_13 (And.intro @vs98_13 (And.intro @vs99_13 (And.intro @vs100_13 (And.intro @vs101_13 (And.intro @vs102_13 (And.intro @vs103_13 (And.intro @vs104_13 (And.intro @vs105_13 (And.intro @vs106_13 (And.intro @vs107_13 (And.intro @vs108_13 (And.intro @vs110_13 (And.intro @vs112_13 (And.intro @vs114_13 (And.intro @vs116_13 (And.intro @vs118_13 (And.intro @vs120_13 (And.intro @vs122_13 (And.intro @vs124_13 (And.intro @vs126_13 (And.intro @vs128_13 (And.intro @vs130_13 (And.intro @vs132_13 (And.intro @vs134_13 (And.intro @vs136_13 (And.intro @vs138_13 (And.intro @vs140_13 (And.intro @vs142_13 (And.intro @vs144_13 (And.intro @vs146_13 (And.intro @vs148_13 (And.intro @vs150_13 (And.intro @vs152_13 (And.intro @vs154_13 (And.intro @vs156_13 (And.intro @vs158_13 (And.intro @vs160_13 (And.intro @vs162_13 (And.intro @vs164_13 (And.intro @vs166_13 (And.intro @vs168_13 (And.intro @vs170_13 (And.intro @vs172_13 (And.intro @vs174_13 (And.intro @vs176_13 (@vs178_13))))))))))))))))))))))))))))))))))))))))))))))))))))))))))))))))))))))))))))))))))
/-! rows of numbers, read and written at a place that is a whole number -/
def ix (s : Int → Int) : Nat → Int := fun j => s j
def rx (s : Int → Option Nat) : Nat → Option Nat := fun j => s j
def up (s : Int → Int) (i x : Int) : Int → Int := fun j => if j = i then x else s j
def upr (s : Int → Option Nat) (i : Int) (x : Option Nat) : Int → Option Nat := fun j => if j = i then x else s j
theorem up_eq {s : Int → Int} {i x : Int} : up s i x i = x := if_pos rfl
theorem up_ne {s : Int → Int} {i j x : Int} (h : ¬ j = i) : up s i x j = s j := if_neg h
theorem upr_eq {s : Int → Option Nat} {i : Int} {x : Option Nat} : upr s i x i = x := if_pos rfl
theorem upr_ne {s : Int → Option Nat} {i j : Int} {x : Option Nat} (h : ¬ j = i) : upr s i x j = s j := if_neg h
theorem ix_0 : (fun _ : Nat => (0 : Int)) = ix (fun _ => 0) := rfl
theorem rx_0 : (fun _ : Nat => (none : Option Nat)) = rx (fun _ => none) := rfl
theorem ix_up {s : Int → Int} {i x : Int} (h : 0 ≤ i) : up1 (ix s) i.toNat x = ix (up s i x) := by
  funext j
  unfold up1 ix up
  by_cases e : j = i.toNat
  · rw [if_pos e, if_pos (by omega)]
  · rw [if_neg e, if_neg (by omega)]
theorem rx_up {s : Int → Option Nat} {i : Int} {x : Option Nat} (h : 0 ≤ i) : up1 (rx s) i.toNat x = rx (upr s i x) := by
  funext j
  unfold up1 rx upr
  by_cases e : j = i.toNat
  · rw [if_pos e, if_pos (by omega)]
  · rw [if_neg e, if_neg (by omega)]
theorem xt_o {t : Nat} {fs : List V} {K : Nat → Prop} : xTag (some (cObj t fs)) K = K t := rfl
theorem xl_a {ty n : Nat} {f : Nat → Int} {K : Int → Prop} : xLen (some (cArr ty n f)) K = K (n : Int) := rfl
theorem xl_r {ty n : Nat} {f : Nat → Option Nat} {K : Int → Prop} : xLen (some (cRef ty n f)) K = K (n : Int) := rfl
theorem xa_i {i : Int} {n : Nat} {s : Int → Int} {K : Int → Prop} (h : 0 ≤ i ∧ i < (n : Int)) : xAld (fun t => t == 0 || t == 11) i (some (cArr 0 n (ix s))) K = K (s i) := by
  have e : ix s i.toNat = s i := congrArg s (Int.toNat_of_nonneg h.1)
  exact propext ⟨fun z => e ▸ z.2.2.2, fun z => ⟨rfl, h.1, h.2, by rw [e]; exact z⟩⟩
theorem xa_s {i : Int} {n : Nat} {f : Nat → Int} {K : Int → Prop} (h : 0 ≤ i ∧ i < (n : Int)) : xAld (fun t => t == 0 || t == 11) i (some (cArr 11 n f)) K = K (f i.toNat) := propext ⟨fun z => z.2.2.2, fun z => ⟨rfl, h.1, h.2, z⟩⟩
theorem xa_b {i : Int} {n : Nat} {f : Nat → Int} {K : Int → Prop} (h : 0 ≤ i ∧ i < (n : Int)) : xAld (fun t => t == 1 || t == 10) i (some (cArr 10 n f)) K = K (f i.toNat) := propext ⟨fun z => z.2.2.2, fun z => ⟨rfl, h.1, h.2, z⟩⟩
theorem xa_z {i : Int} {n : Nat} {s : Int → Int} {K : Int → Prop} (h : 0 ≤ i ∧ i < (n : Int)) : xAld (fun t => t == 1 || t == 10) i (some (cArr 1 n (ix s))) K = K (s i) := by
  have e : ix s i.toNat = s i := congrArg s (Int.toNat_of_nonneg h.1)
  exact propext ⟨fun z => e ▸ z.2.2.2, fun z => ⟨rfl, h.1, h.2, by rw [e]; exact z⟩⟩
theorem xs_i {i x : Int} {n : Nat} {s : Int → Int} {K : MC → Prop} (h : 0 ≤ i ∧ i < (n : Int)) : xAst 0 i x (some (cArr 0 n (ix s))) K = K (cArr 0 n (ix (up s i x))) := by
  rw [← ix_up h.1]
  exact propext ⟨fun z => z.2.2.2, fun z => ⟨rfl, h.1, h.2, z⟩⟩
theorem xs_z {i x : Int} {n : Nat} {s : Int → Int} {K : MC → Prop} (h : 0 ≤ i ∧ i < (n : Int)) : xAst 1 i x (some (cArr 1 n (ix s))) K = K (cArr 1 n (ix (up s i x))) := by
  rw [← ix_up h.1]
  exact propext ⟨fun z => z.2.2.2, fun z => ⟨rfl, h.1, h.2, z⟩⟩
theorem xr_l {i : Int} {n : Nat} {s : Int → Option Nat} {K : V → Prop} (h : 0 ≤ i ∧ i < (n : Int)) : xRld i (some (cRef 0 n (rx s))) K = K (vO (s i)) := by
  have e : rx s i.toNat = s i := congrArg s (Int.toNat_of_nonneg h.1)
  exact propext ⟨fun z => e ▸ z.2.2.2, fun z => ⟨rfl, h.1, h.2, by rw [e]; exact z⟩⟩
theorem xr_s {i : Int} {r : Option Nat} {n : Nat} {s : Int → Option Nat} {K : MC → Prop} (h : 0 ≤ i ∧ i < (n : Int)) : xRst i r (some (cRef 0 n (rx s))) K = K (cRef 0 n (rx (upr s i r))) := by
  rw [← rx_up h.1]
  exact propext ⟨fun z => z.2.2.2, fun z => ⟨rfl, h.1, h.2, z⟩⟩
/-! cells -/
theorem hs_1 {h : MH} {a : Nat} {c : MC} : (hset h a c).1 = h.1 := rfl
theorem hs_2 {h : MH} {a : Nat} {c : MC} : (hset h a c).2.1 = h.2.1 := rfl
theorem hs_eq {h : MH} {a : Nat} {c : MC} : (hset h a c).2.2 a = some c := if_pos rfl
theorem hs_ne {h : MH} {a b : Nat} {c : MC} (e : ¬ b = a) : (hset h a c).2.2 b = h.2.2 b := if_neg e
theorem hn_1 {h : MH} {a n : Nat} {c : MC} : (hnew h a n c).1 = h.1 + 1 := rfl
theorem hn_2 {h : MH} {a n : Nat} {c : MC} : (hnew h a n c).2.1 = h.2.1 + n := rfl
theorem hn_eq {h : MH} {a n : Nat} {c : MC} : (hnew h a n c).2.2 a = some c := if_pos rfl
theorem hn_ne {h : MH} {a b n : Nat} {c : MC} (e : ¬ b = a) : (hnew h a n c).2.2 b = h.2.2 b := if_neg e
theorem up1_same {α : Type} {f : Nat → α} {k : Nat} {v : α} (e : f k = v) : up1 f k v = f := by
  funext j; unfold up1; by_cases h : j = k
  · rw [if_pos h, h, e]
  · rw [if_neg h]
theorem up1_up1 {α : Type} {f : Nat → α} {k : Nat} {v w : α} : up1 (up1 f k v) k w = up1 f k w := by
  funext j; unfold up1; by_cases h : j = k
  · rw [if_pos h, if_pos h]
  · rw [if_neg h, if_neg h, if_neg h]
theorem hs_hs {h : MH} {a : Nat} {c c' : MC} : hset (hset h a c) a c' = hset h a c' := by
  unfold hset; rw [up1_up1]
theorem hs_same {h : MH} {a : Nat} {c : MC} (e : h.2.2 a = some c) : hset h a c = h := by
  unfold hset; rw [up1_same e]
/-! sums -/
theorem ar_add {a b : Int} (h : -2147483648 ≤ a + b ∧ a + b < 2147483648) : iBin 0 a b = a + b := by
  show (Int32.ofInt a + Int32.ofInt b).toInt = _
  rw [← Int32.ofInt_add]
  exact i32i h
theorem ar_sub {a b : Int} (h : -2147483648 ≤ a - b ∧ a - b < 2147483648) : iBin 1 a b = a - b := by
  show (Int32.ofInt a - Int32.ofInt b).toInt = _
  rw [← Int32.ofInt_sub]
  exact i32i h
theorem ar_mul {a b : Int} (h : -2147483648 ≤ a * b ∧ a * b < 2147483648) : iBin 2 a b = a * b := by
  show (Int32.ofInt a * Int32.ofInt b).toInt = _
  rw [← Int32.ofInt_mul]
  exact i32i h
theorem iBin_r (k : Nat) (a b : Int) : iR (iBin k a b) := by
  match k with
  | 0 => exact i32r _
  | 1 => exact i32r _
  | 2 => exact i32r _
  | 3 => exact i32r _
  | 4 => exact i32r _
  | 5 => exact i32r _
  | 6 => exact i32r _
  | 7 => exact i32r _
  | _ + 8 => exact i32r _
theorem ar_div {a b : Int} (h : 0 ≤ a ∧ a < 2147483648 ∧ 0 < b ∧ b < 2147483648) : iDiv a b = a / b := by
  obtain ⟨h1, h2, h3, h4⟩ := h
  show (Int32.ofInt a / Int32.ofInt b).toInt = _
  rw [Int32.toInt_div, i32i ⟨by omega, h2⟩, i32i ⟨by omega, h4⟩, Int.tdiv_eq_ediv_of_nonneg h1]
  have q1 : 0 ≤ a / b := Int.ediv_nonneg h1 (Int.le_of_lt h3)
  have q2 : a / b ≤ a := Int.ediv_le_self _ h1
  exact Int.bmod_eq_of_le (by omega) (by omega)
theorem ar_rem {a b : Int} (h : 0 ≤ a ∧ a < 2147483648 ∧ 0 < b ∧ b < 2147483648) : iRem a b = a % b := by
  have hd := ar_div h
  obtain ⟨h1, h2, h3, h4⟩ := h
  unfold iDiv at hd
  have q1 : 0 ≤ a / b := Int.ediv_nonneg h1 (Int.le_of_lt h3)
  have q2 : a / b ≤ a := Int.ediv_le_self _ h1
  have e : Int32.ofInt a / Int32.ofInt b = Int32.ofInt (a / b) := by
    apply Int32.toInt_inj.mp
    rw [hd, i32i ⟨by omega, by omega⟩]
  show (Int32.ofInt a - Int32.ofInt a / Int32.ofInt b * Int32.ofInt b).toInt = _
  rw [e, ← Int32.ofInt_mul, ← Int32.ofInt_sub]
  have m1 := Int.emod_nonneg a (show b ≠ 0 by omega)
  have m2 := Int.emod_lt_of_pos a h3
  have m3 : a - a / b * b = a % b := by
    have := Int.emod_add_mul_ediv a b
    rw [Int.mul_comm] at this
    omega
  rw [m3]
  exact i32i ⟨by omega, by omega⟩
theorem ar_neg {a : Int} (h : -2147483648 < a ∧ a < 2147483648) : iNeg a = -a := by
  show (-(Int32.ofInt a)).toInt = _
  rw [← Int32.ofInt_neg]
  exact i32i ⟨by omega, by omega⟩

