/-! THE MODEL: its shape -/
def mSh (h : jH) (m : Nat) : Prop := hK h m = 9 ∧ (hR h 800 m = m + 1 ∧ hK h (m + 1) = 10 ∧ hN h (m + 1) = 640) ∧ (hR h 801 m = m + 2 ∧ hK h (m + 2) = 10 ∧ hN h (m + 2) = 600) ∧ (hR h 802 m = m + 3 ∧ hK h (m + 3) = 10 ∧ hN h (m + 3) = 600) ∧ (hR h 803 m = m + 4 ∧ hK h (m + 4) = 10 ∧ hN h (m + 4) = 600) ∧ (hR h 804 m = m + 5 ∧ hK h (m + 5) = 10 ∧ hN h (m + 5) = 600) ∧ (hR h 805 m = m + 6 ∧ hK h (m + 6) = 10 ∧ hN h (m + 6) = 600) ∧ (hR h 807 m = m + 7 ∧ hK h (m + 7) = 10 ∧ hN h (m + 7) = 120) ∧ (hR h 808 m = m + 8 ∧ hK h (m + 8) = 10 ∧ hN h (m + 8) = 120) ∧ (hR h 809 m = m + 9 ∧ hK h (m + 9) = 10 ∧ hN h (m + 9) = 120) ∧ (hR h 810 m = m + 10 ∧ hK h (m + 10) = 12 ∧ hN h (m + 10) = 120) ∧ (hR h 813 m = m + 11 ∧ hK h (m + 11) = 10 ∧ hN h (m + 11) = 10) ∧ (hR h 814 m = m + 12 ∧ hK h (m + 12) = 10 ∧ hN h (m + 12) = 201) ∧ (hR h 815 m = m + 13 ∧ hK h (m + 13) = 10 ∧ hN h (m + 13) = 201) ∧ (hR h 816 m = m + 14 ∧ hK h (m + 14) = 10 ∧ hN h (m + 14) = 402) ∧ (hR h 817 m = m + 15 ∧ hK h (m + 15) = 11 ∧ hN h (m + 15) = 18100) ∧ (hR h 818 m = m + 16 ∧ hK h (m + 16) = 11 ∧ hN h (m + 16) = 600) ∧ (hR h 820 m = m + 17 ∧ hK h (m + 17) = 11 ∧ hN h (m + 17) = 600) ∧ (hR h 827 m = m + 18 ∧ hK h (m + 18) = 10 ∧ hN h (m + 18) = 100) ∧ (hR h 828 m = m + 19 ∧ hK h (m + 19) = 10 ∧ hN h (m + 19) = 21) ∧ (hR h 832 m = m + 20 ∧ hK h (m + 20) = 11 ∧ hN h (m + 20) = 4000) ∧ (hR h 834 m = m + 21 ∧ hK h (m + 21) = 10 ∧ hN h (m + 21) = 106) ∧ (hR h 835 m = m + 22 ∧ hK h (m + 22) = 10 ∧ hN h (m + 22) = 106) ∧ (hR h 837 m = m + 23 ∧ hK h (m + 23) = 10 ∧ hN h (m + 23) = 110) ∧ (hR h 839 m = m + 24 ∧ hK h (m + 24) = 10 ∧ hN h (m + 24) = 102) ∧ (hR h 840 m = m + 25 ∧ hK h (m + 25) = 10 ∧ hN h (m + 25) = 102) ∧ (hR h 841 m = m + 26 ∧ hK h (m + 26) = 11 ∧ hN h (m + 26) = 50) ∧ (hR h 842 m = m + 27 ∧ hK h (m + 27) = 11 ∧ hN h (m + 27) = 2000) ∧ (hR h 847 m = m + 28 ∧ hK h (m + 28) = 10 ∧ hN h (m + 28) = 102) ∧ (hR h 848 m = m + 29 ∧ hK h (m + 29) = 10 ∧ hN h (m + 29) = 102)
theorem mSh.r800 {h : jH} {m : Nat} (H : mSh h m) : hR h 800 m = m + 1 := H.2.1.1
theorem mSh.k800 {h : jH} {m : Nat} (H : mSh h m) : hK h (m + 1) = 10 := H.2.1.2.1
theorem mSh.n800 {h : jH} {m : Nat} (H : mSh h m) : hN h (m + 1) = 640 := H.2.1.2.2
theorem mSh.r801 {h : jH} {m : Nat} (H : mSh h m) : hR h 801 m = m + 2 := H.2.2.1.1
theorem mSh.k801 {h : jH} {m : Nat} (H : mSh h m) : hK h (m + 2) = 10 := H.2.2.1.2.1
theorem mSh.n801 {h : jH} {m : Nat} (H : mSh h m) : hN h (m + 2) = 600 := H.2.2.1.2.2
theorem mSh.r802 {h : jH} {m : Nat} (H : mSh h m) : hR h 802 m = m + 3 := H.2.2.2.1.1
theorem mSh.k802 {h : jH} {m : Nat} (H : mSh h m) : hK h (m + 3) = 10 := H.2.2.2.1.2.1
theorem mSh.n802 {h : jH} {m : Nat} (H : mSh h m) : hN h (m + 3) = 600 := H.2.2.2.1.2.2
theorem mSh.r803 {h : jH} {m : Nat} (H : mSh h m) : hR h 803 m = m + 4 := H.2.2.2.2.1.1
theorem mSh.k803 {h : jH} {m : Nat} (H : mSh h m) : hK h (m + 4) = 10 := H.2.2.2.2.1.2.1
theorem mSh.n803 {h : jH} {m : Nat} (H : mSh h m) : hN h (m + 4) = 600 := H.2.2.2.2.1.2.2
theorem mSh.r804 {h : jH} {m : Nat} (H : mSh h m) : hR h 804 m = m + 5 := H.2.2.2.2.2.1.1
theorem mSh.k804 {h : jH} {m : Nat} (H : mSh h m) : hK h (m + 5) = 10 := H.2.2.2.2.2.1.2.1
theorem mSh.n804 {h : jH} {m : Nat} (H : mSh h m) : hN h (m + 5) = 600 := H.2.2.2.2.2.1.2.2
theorem mSh.r805 {h : jH} {m : Nat} (H : mSh h m) : hR h 805 m = m + 6 := H.2.2.2.2.2.2.1.1
theorem mSh.k805 {h : jH} {m : Nat} (H : mSh h m) : hK h (m + 6) = 10 := H.2.2.2.2.2.2.1.2.1
theorem mSh.n805 {h : jH} {m : Nat} (H : mSh h m) : hN h (m + 6) = 600 := H.2.2.2.2.2.2.1.2.2
theorem mSh.r807 {h : jH} {m : Nat} (H : mSh h m) : hR h 807 m = m + 7 := H.2.2.2.2.2.2.2.1.1
theorem mSh.k807 {h : jH} {m : Nat} (H : mSh h m) : hK h (m + 7) = 10 := H.2.2.2.2.2.2.2.1.2.1
theorem mSh.n807 {h : jH} {m : Nat} (H : mSh h m) : hN h (m + 7) = 120 := H.2.2.2.2.2.2.2.1.2.2
theorem mSh.r808 {h : jH} {m : Nat} (H : mSh h m) : hR h 808 m = m + 8 := H.2.2.2.2.2.2.2.2.1.1
theorem mSh.k808 {h : jH} {m : Nat} (H : mSh h m) : hK h (m + 8) = 10 := H.2.2.2.2.2.2.2.2.1.2.1
theorem mSh.n808 {h : jH} {m : Nat} (H : mSh h m) : hN h (m + 8) = 120 := H.2.2.2.2.2.2.2.2.1.2.2
theorem mSh.r809 {h : jH} {m : Nat} (H : mSh h m) : hR h 809 m = m + 9 := H.2.2.2.2.2.2.2.2.2.1.1
theorem mSh.k809 {h : jH} {m : Nat} (H : mSh h m) : hK h (m + 9) = 10 := H.2.2.2.2.2.2.2.2.2.1.2.1
theorem mSh.n809 {h : jH} {m : Nat} (H : mSh h m) : hN h (m + 9) = 120 := H.2.2.2.2.2.2.2.2.2.1.2.2
theorem mSh.r810 {h : jH} {m : Nat} (H : mSh h m) : hR h 810 m = m + 10 := H.2.2.2.2.2.2.2.2.2.2.1.1
theorem mSh.k810 {h : jH} {m : Nat} (H : mSh h m) : hK h (m + 10) = 12 := H.2.2.2.2.2.2.2.2.2.2.1.2.1
theorem mSh.n810 {h : jH} {m : Nat} (H : mSh h m) : hN h (m + 10) = 120 := H.2.2.2.2.2.2.2.2.2.2.1.2.2
theorem mSh.r813 {h : jH} {m : Nat} (H : mSh h m) : hR h 813 m = m + 11 := H.2.2.2.2.2.2.2.2.2.2.2.1.1
theorem mSh.k813 {h : jH} {m : Nat} (H : mSh h m) : hK h (m + 11) = 10 := H.2.2.2.2.2.2.2.2.2.2.2.1.2.1
theorem mSh.n813 {h : jH} {m : Nat} (H : mSh h m) : hN h (m + 11) = 10 := H.2.2.2.2.2.2.2.2.2.2.2.1.2.2
theorem mSh.r814 {h : jH} {m : Nat} (H : mSh h m) : hR h 814 m = m + 12 := H.2.2.2.2.2.2.2.2.2.2.2.2.1.1
theorem mSh.k814 {h : jH} {m : Nat} (H : mSh h m) : hK h (m + 12) = 10 := H.2.2.2.2.2.2.2.2.2.2.2.2.1.2.1
theorem mSh.n814 {h : jH} {m : Nat} (H : mSh h m) : hN h (m + 12) = 201 := H.2.2.2.2.2.2.2.2.2.2.2.2.1.2.2
theorem mSh.r815 {h : jH} {m : Nat} (H : mSh h m) : hR h 815 m = m + 13 := H.2.2.2.2.2.2.2.2.2.2.2.2.2.1.1
theorem mSh.k815 {h : jH} {m : Nat} (H : mSh h m) : hK h (m + 13) = 10 := H.2.2.2.2.2.2.2.2.2.2.2.2.2.1.2.1
theorem mSh.n815 {h : jH} {m : Nat} (H : mSh h m) : hN h (m + 13) = 201 := H.2.2.2.2.2.2.2.2.2.2.2.2.2.1.2.2
theorem mSh.r816 {h : jH} {m : Nat} (H : mSh h m) : hR h 816 m = m + 14 := H.2.2.2.2.2.2.2.2.2.2.2.2.2.2.1.1
theorem mSh.k816 {h : jH} {m : Nat} (H : mSh h m) : hK h (m + 14) = 10 := H.2.2.2.2.2.2.2.2.2.2.2.2.2.2.1.2.1
theorem mSh.n816 {h : jH} {m : Nat} (H : mSh h m) : hN h (m + 14) = 402 := H.2.2.2.2.2.2.2.2.2.2.2.2.2.2.1.2.2
theorem mSh.r817 {h : jH} {m : Nat} (H : mSh h m) : hR h 817 m = m + 15 := H.2.2.2.2.2.2.2.2.2.2.2.2.2.2.2.1.1
theorem mSh.k817 {h : jH} {m : Nat} (H : mSh h m) : hK h (m + 15) = 11 := H.2.2.2.2.2.2.2.2.2.2.2.2.2.2.2.1.2.1
theorem mSh.n817 {h : jH} {m : Nat} (H : mSh h m) : hN h (m + 15) = 18100 := H.2.2.2.2.2.2.2.2.2.2.2.2.2.2.2.1.2.2
theorem mSh.r818 {h : jH} {m : Nat} (H : mSh h m) : hR h 818 m = m + 16 := H.2.2.2.2.2.2.2.2.2.2.2.2.2.2.2.2.1.1
theorem mSh.k818 {h : jH} {m : Nat} (H : mSh h m) : hK h (m + 16) = 11 := H.2.2.2.2.2.2.2.2.2.2.2.2.2.2.2.2.1.2.1
theorem mSh.n818 {h : jH} {m : Nat} (H : mSh h m) : hN h (m + 16) = 600 := H.2.2.2.2.2.2.2.2.2.2.2.2.2.2.2.2.1.2.2
theorem mSh.r820 {h : jH} {m : Nat} (H : mSh h m) : hR h 820 m = m + 17 := H.2.2.2.2.2.2.2.2.2.2.2.2.2.2.2.2.2.1.1
theorem mSh.k820 {h : jH} {m : Nat} (H : mSh h m) : hK h (m + 17) = 11 := H.2.2.2.2.2.2.2.2.2.2.2.2.2.2.2.2.2.1.2.1
theorem mSh.n820 {h : jH} {m : Nat} (H : mSh h m) : hN h (m + 17) = 600 := H.2.2.2.2.2.2.2.2.2.2.2.2.2.2.2.2.2.1.2.2
theorem mSh.r827 {h : jH} {m : Nat} (H : mSh h m) : hR h 827 m = m + 18 := H.2.2.2.2.2.2.2.2.2.2.2.2.2.2.2.2.2.2.1.1
theorem mSh.k827 {h : jH} {m : Nat} (H : mSh h m) : hK h (m + 18) = 10 := H.2.2.2.2.2.2.2.2.2.2.2.2.2.2.2.2.2.2.1.2.1
theorem mSh.n827 {h : jH} {m : Nat} (H : mSh h m) : hN h (m + 18) = 100 := H.2.2.2.2.2.2.2.2.2.2.2.2.2.2.2.2.2.2.1.2.2
theorem mSh.r828 {h : jH} {m : Nat} (H : mSh h m) : hR h 828 m = m + 19 := H.2.2.2.2.2.2.2.2.2.2.2.2.2.2.2.2.2.2.2.1.1
theorem mSh.k828 {h : jH} {m : Nat} (H : mSh h m) : hK h (m + 19) = 10 := H.2.2.2.2.2.2.2.2.2.2.2.2.2.2.2.2.2.2.2.1.2.1
theorem mSh.n828 {h : jH} {m : Nat} (H : mSh h m) : hN h (m + 19) = 21 := H.2.2.2.2.2.2.2.2.2.2.2.2.2.2.2.2.2.2.2.1.2.2
theorem mSh.r832 {h : jH} {m : Nat} (H : mSh h m) : hR h 832 m = m + 20 := H.2.2.2.2.2.2.2.2.2.2.2.2.2.2.2.2.2.2.2.2.1.1
theorem mSh.k832 {h : jH} {m : Nat} (H : mSh h m) : hK h (m + 20) = 11 := H.2.2.2.2.2.2.2.2.2.2.2.2.2.2.2.2.2.2.2.2.1.2.1
theorem mSh.n832 {h : jH} {m : Nat} (H : mSh h m) : hN h (m + 20) = 4000 := H.2.2.2.2.2.2.2.2.2.2.2.2.2.2.2.2.2.2.2.2.1.2.2
theorem mSh.r834 {h : jH} {m : Nat} (H : mSh h m) : hR h 834 m = m + 21 := H.2.2.2.2.2.2.2.2.2.2.2.2.2.2.2.2.2.2.2.2.2.1.1
theorem mSh.k834 {h : jH} {m : Nat} (H : mSh h m) : hK h (m + 21) = 10 := H.2.2.2.2.2.2.2.2.2.2.2.2.2.2.2.2.2.2.2.2.2.1.2.1
theorem mSh.n834 {h : jH} {m : Nat} (H : mSh h m) : hN h (m + 21) = 106 := H.2.2.2.2.2.2.2.2.2.2.2.2.2.2.2.2.2.2.2.2.2.1.2.2
theorem mSh.r835 {h : jH} {m : Nat} (H : mSh h m) : hR h 835 m = m + 22 := H.2.2.2.2.2.2.2.2.2.2.2.2.2.2.2.2.2.2.2.2.2.2.1.1
theorem mSh.k835 {h : jH} {m : Nat} (H : mSh h m) : hK h (m + 22) = 10 := H.2.2.2.2.2.2.2.2.2.2.2.2.2.2.2.2.2.2.2.2.2.2.1.2.1
theorem mSh.n835 {h : jH} {m : Nat} (H : mSh h m) : hN h (m + 22) = 106 := H.2.2.2.2.2.2.2.2.2.2.2.2.2.2.2.2.2.2.2.2.2.2.1.2.2
theorem mSh.r837 {h : jH} {m : Nat} (H : mSh h m) : hR h 837 m = m + 23 := H.2.2.2.2.2.2.2.2.2.2.2.2.2.2.2.2.2.2.2.2.2.2.2.1.1
theorem mSh.k837 {h : jH} {m : Nat} (H : mSh h m) : hK h (m + 23) = 10 := H.2.2.2.2.2.2.2.2.2.2.2.2.2.2.2.2.2.2.2.2.2.2.2.1.2.1
theorem mSh.n837 {h : jH} {m : Nat} (H : mSh h m) : hN h (m + 23) = 110 := H.2.2.2.2.2.2.2.2.2.2.2.2.2.2.2.2.2.2.2.2.2.2.2.1.2.2
theorem mSh.r839 {h : jH} {m : Nat} (H : mSh h m) : hR h 839 m = m + 24 := H.2.2.2.2.2.2.2.2.2.2.2.2.2.2.2.2.2.2.2.2.2.2.2.2.1.1
theorem mSh.k839 {h : jH} {m : Nat} (H : mSh h m) : hK h (m + 24) = 10 := H.2.2.2.2.2.2.2.2.2.2.2.2.2.2.2.2.2.2.2.2.2.2.2.2.1.2.1
theorem mSh.n839 {h : jH} {m : Nat} (H : mSh h m) : hN h (m + 24) = 102 := H.2.2.2.2.2.2.2.2.2.2.2.2.2.2.2.2.2.2.2.2.2.2.2.2.1.2.2
theorem mSh.r840 {h : jH} {m : Nat} (H : mSh h m) : hR h 840 m = m + 25 := H.2.2.2.2.2.2.2.2.2.2.2.2.2.2.2.2.2.2.2.2.2.2.2.2.2.1.1
theorem mSh.k840 {h : jH} {m : Nat} (H : mSh h m) : hK h (m + 25) = 10 := H.2.2.2.2.2.2.2.2.2.2.2.2.2.2.2.2.2.2.2.2.2.2.2.2.2.1.2.1
theorem mSh.n840 {h : jH} {m : Nat} (H : mSh h m) : hN h (m + 25) = 102 := H.2.2.2.2.2.2.2.2.2.2.2.2.2.2.2.2.2.2.2.2.2.2.2.2.2.1.2.2
theorem mSh.r841 {h : jH} {m : Nat} (H : mSh h m) : hR h 841 m = m + 26 := H.2.2.2.2.2.2.2.2.2.2.2.2.2.2.2.2.2.2.2.2.2.2.2.2.2.2.1.1
theorem mSh.k841 {h : jH} {m : Nat} (H : mSh h m) : hK h (m + 26) = 11 := H.2.2.2.2.2.2.2.2.2.2.2.2.2.2.2.2.2.2.2.2.2.2.2.2.2.2.1.2.1
theorem mSh.n841 {h : jH} {m : Nat} (H : mSh h m) : hN h (m + 26) = 50 := H.2.2.2.2.2.2.2.2.2.2.2.2.2.2.2.2.2.2.2.2.2.2.2.2.2.2.1.2.2
theorem mSh.r842 {h : jH} {m : Nat} (H : mSh h m) : hR h 842 m = m + 27 := H.2.2.2.2.2.2.2.2.2.2.2.2.2.2.2.2.2.2.2.2.2.2.2.2.2.2.2.1.1
theorem mSh.k842 {h : jH} {m : Nat} (H : mSh h m) : hK h (m + 27) = 11 := H.2.2.2.2.2.2.2.2.2.2.2.2.2.2.2.2.2.2.2.2.2.2.2.2.2.2.2.1.2.1
theorem mSh.n842 {h : jH} {m : Nat} (H : mSh h m) : hN h (m + 27) = 2000 := H.2.2.2.2.2.2.2.2.2.2.2.2.2.2.2.2.2.2.2.2.2.2.2.2.2.2.2.1.2.2
theorem mSh.r847 {h : jH} {m : Nat} (H : mSh h m) : hR h 847 m = m + 28 := H.2.2.2.2.2.2.2.2.2.2.2.2.2.2.2.2.2.2.2.2.2.2.2.2.2.2.2.2.1.1
theorem mSh.k847 {h : jH} {m : Nat} (H : mSh h m) : hK h (m + 28) = 10 := H.2.2.2.2.2.2.2.2.2.2.2.2.2.2.2.2.2.2.2.2.2.2.2.2.2.2.2.2.1.2.1
theorem mSh.n847 {h : jH} {m : Nat} (H : mSh h m) : hN h (m + 28) = 102 := H.2.2.2.2.2.2.2.2.2.2.2.2.2.2.2.2.2.2.2.2.2.2.2.2.2.2.2.2.1.2.2
theorem mSh.r848 {h : jH} {m : Nat} (H : mSh h m) : hR h 848 m = m + 29 := H.2.2.2.2.2.2.2.2.2.2.2.2.2.2.2.2.2.2.2.2.2.2.2.2.2.2.2.2.2.1
theorem mSh.k848 {h : jH} {m : Nat} (H : mSh h m) : hK h (m + 29) = 10 := H.2.2.2.2.2.2.2.2.2.2.2.2.2.2.2.2.2.2.2.2.2.2.2.2.2.2.2.2.2.2.1
theorem mSh.n848 {h : jH} {m : Nat} (H : mSh h m) : hN h (m + 29) = 102 := H.2.2.2.2.2.2.2.2.2.2.2.2.2.2.2.2.2.2.2.2.2.2.2.2.2.2.2.2.2.2.2
theorem mSh.k {h : jH} {m : Nat} (H : mSh h m) : hK h m = 9 := H.1
/-! what changes: numbers of the model, at these slots and arrays alone -/
def mFr (m : Nat) (fs as : List Nat) (h h' : jH) : Prop := (hR h' = hR h ∧ hQ h' = hQ h ∧ hK h' = hK h ∧ hN h' = hN h ∧ hS h' = hS h ∧ hT h' = hT h) ∧ (∀ f o, (o = m → f ∉ fs) → hI h' f o = hI h f o) ∧ ∀ o i, (∀ a ∈ as, o ≠ m + a) → hA h' o i = hA h o i
section MF
variable {m : Nat} {fs as : List Nat} {h h1 h2 : jH}
theorem mFr.rfl : mFr m fs as h h := ⟨⟨.refl _, .refl _, .refl _, .refl _, .refl _, .refl _⟩, fun _ _ _ => .refl _, fun _ _ _ => .refl _⟩
theorem mFr.trans (p : mFr m fs as h h1) (q : mFr m fs as h1 h2) : mFr m fs as h h2 :=
  ⟨⟨q.1.1.trans p.1.1, q.1.2.1.trans p.1.2.1, q.1.2.2.1.trans p.1.2.2.1, q.1.2.2.2.1.trans p.1.2.2.2.1, q.1.2.2.2.2.1.trans p.1.2.2.2.2.1, q.1.2.2.2.2.2.trans p.1.2.2.2.2.2⟩, fun f o z => (q.2.1 f o z).trans (p.2.1 f o z), fun o i z => (q.2.2 o i z).trans (p.2.2 o i z)⟩
theorem mFr.mono {fs' as' : List Nat} (p : mFr m fs as h h1) (hf : ∀ f ∈ fs, f ∈ fs') (ha : ∀ a ∈ as, a ∈ as') : mFr m fs' as' h h1 :=
  ⟨p.1, fun f o z => p.2.1 f o (fun e q => z e (hf f q)), fun o i z => p.2.2 o i (fun a q => z a (ha a q))⟩
theorem mFr.sI (p : mFr m fs as h h1) {f : Nat} {v : Int} (hf : f ∈ fs) : mFr m fs as h (sI h1 f m v) :=
  ⟨p.1, fun g o z => by
    have n : ¬ (g = f ∧ o = m) := fun e => z e.2 (e.1.symm ▸ hf)
    rw [hI_sI, if_neg n]; exact p.2.1 g o z, p.2.2⟩
theorem mFr.sA (p : mFr m fs as h h1) {a : Nat} {i v : Int} (ha : a ∈ as) : mFr m fs as h (sA h1 (m + a) i v) :=
  ⟨p.1, p.2.1, fun o j z => by
    have n : ¬ (o = m + a ∧ j = i) := fun e => z a ha e.1
    rw [hA_sA, if_neg n]; exact p.2.2 o j z⟩
theorem mFr.i (p : mFr m fs as h h1) {f : Nat} (hf : f ∉ fs) : hI h1 f m = hI h f m := p.2.1 f m (fun _ => hf)
theorem mFr.a (p : mFr m fs as h h1) {a : Nat} (ha : a ∉ as) (i : Int) : hA h1 (m + a) i = hA h (m + a) i := p.2.2 (m + a) i (fun b hb e => ha ((Nat.add_left_cancel e) ▸ hb))
theorem mFr.sh (p : mFr m fs as h h1) (H : mSh h m) : mSh h1 m := by
  unfold mSh at *
  rw [p.1.1, p.1.2.2.1, p.1.2.2.2.1]
  exact H
theorem mFr.fr (p : mFr m fs as h h1) (ha : ∀ a ∈ as, a < 30) : jFr m (m + 30) h h1 :=
  ⟨p.1.2.2.1, p.1.2.2.2.1, p.1.2.2.2.2.1, p.1.2.2.2.2.2, fun o ho => ⟨fun f => ⟨p.2.1 f o (fun e => by omega), by rw [p.1.1]⟩, fun i => ⟨p.2.2 o i (fun a q => by have := ha a q; omega), by rw [p.1.2.1]⟩⟩⟩
end MF
/-! the tables -/
def mTb (h : jH) (m : Nat) : Prop := hI h 806 m = 457 ∧ hI h 811 m = 61 ∧ (∀ i : Int, 0 ≤ i → i < 457 → hA h (m + 2) i = aN i ∧ hA h (m + 3) i = aD i ∧ hA h (m + 4) i = aP i ∧ hA h (m + 5) i = aF i ∧ hA h (m + 6) i = aC i) ∧ (∀ i : Int, 0 ≤ i → i < 61 → hA h (m + 7) i = pS i ∧ hA h (m + 8) i = pL i ∧ hA h (m + 9) i = pM i ∧ hA h (m + 10) i = pO i) ∧ (∀ i : Nat, i < 106 → hA h (m + 22) (i : Int) = patL.getD i 0) ∧ hI h 836 m = patS
abbrev mNt (fs as : List Nat) : Prop := (∀ f ∈ fs, f ≠ 806 ∧ f ≠ 811 ∧ f ≠ 836) ∧ ∀ a ∈ as, a = 1 ∨ (10 < a ∧ a ≠ 22)
theorem mFr.tb {m : Nat} {fs as : List Nat} {h h1 : jH} (p : mFr m fs as h h1) (H : mTb h m) (n : mNt fs as) : mTb h1 m := by
  have u : ∀ a, 2 ≤ a → a ≤ 10 ∨ a = 22 → a ∉ as := fun a h2 h3 q => by have := n.2 a q; omega
  refine ⟨(p.i (fun q => (n.1 _ q).1 (.refl _))).trans H.1, (p.i (fun q => (n.1 _ q).2.1 (.refl _))).trans H.2.1, fun i h0 hi => ?_, fun i h0 hi => ?_, fun i hi => ?_, (p.i (fun q => (n.1 _ q).2.2 (.refl _))).trans H.2.2.2.2.2⟩
  · rw [p.a (u 2 (by decide) (by decide)), p.a (u 3 (by decide) (by decide)), p.a (u 4 (by decide) (by decide)), p.a (u 5 (by decide) (by decide)), p.a (u 6 (by decide) (by decide))]
    exact H.2.2.1 i h0 hi
  · rw [p.a (u 7 (by decide) (by decide)), p.a (u 8 (by decide) (by decide)), p.a (u 9 (by decide) (by decide)), p.a (u 10 (by decide) (by decide))]
    exact H.2.2.2.1 i h0 hi
  · rw [p.a (u 22 (by decide) (by decide))]
    exact H.2.2.2.2.1 i hi
/-! elements -/
def yrP (x : jE) (j : Int) : Int := if pbV (lineV x.1 x.2.1) x.2.2.1.length j = 0 then 0 else 1
def mEl (h : jH) (m : Nat) (e : Int) (x : jE) : Prop := lineV x.1 x.2.1 ≠ -1 ∧ x.2.2.1.length ≤ 90 ∧ hA h (m + 12) e = ixV x.1 x.2.1 ∧ hA h (m + 13) e = x.2.2.1.length ∧ (∀ i : Nat, i < x.2.2.1.length → hA h (m + 15) (90 * e + i) = x.2.2.1.getD i 0) ∧ ∀ j : Int, psV (lineV x.1 x.2.1) j = 4 → pbV (lineV x.1 x.2.1) x.2.2.1.length j ≠ -1 → hA h (m + 14) (2 * e + yrP x j) = yearV (twoAt x.2.2.1 (pbV (lineV x.1 x.2.1) x.2.2.1.length j)) x.2.2.2
def mSame (h h' : jH) (m : Nat) (e e' : Int) : Prop := hA h' (m + 12) e' = hA h (m + 12) e ∧ hA h' (m + 13) e' = hA h (m + 13) e ∧ hA h' (m + 14) (2 * e') = hA h (m + 14) (2 * e) ∧ hA h' (m + 14) (2 * e' + 1) = hA h (m + 14) (2 * e + 1) ∧ ∀ i : Nat, i < 90 → hA h' (m + 15) (90 * e' + i) = hA h (m + 15) (90 * e + i)
theorem mSame.rfl {h : jH} {m : Nat} {e : Int} : mSame h h m e e := ⟨.refl _, .refl _, .refl _, .refl _, fun _ _ => .refl _⟩
theorem mSame.trans {h h1 h2 : jH} {m : Nat} {e e1 e2 : Int} (p : mSame h h1 m e e1) (q : mSame h1 h2 m e1 e2) : mSame h h2 m e e2 :=
  ⟨q.1.trans p.1, q.2.1.trans p.2.1, q.2.2.1.trans p.2.2.1, q.2.2.2.1.trans p.2.2.2.1, fun i hi => (q.2.2.2.2 i hi).trans (p.2.2.2.2 i hi)⟩
theorem mFr.same {m : Nat} {fs as : List Nat} {h h1 : jH} (p : mFr m fs as h h1) (n : ∀ a ∈ as, a < 12 ∨ 15 < a) (e : Int) : mSame h h1 m e e := by
  have u : ∀ a, 12 ≤ a → a ≤ 15 → a ∉ as := fun a h2 h3 q => by have := n a q; omega
  exact ⟨p.a (u 12 (by decide) (by decide)) _, p.a (u 13 (by decide) (by decide)) _, p.a (u 14 (by decide) (by decide)) _, p.a (u 14 (by decide) (by decide)) _, fun i _ => p.a (u 15 (by decide) (by decide)) _⟩
theorem yrP_or (x : jE) (j : Int) : yrP x j = 0 ∨ yrP x j = 1 := by unfold yrP; split <;> simp
theorem mEl.to {h h' : jH} {m : Nat} {e e' : Int} {x : jE} (H : mEl h m e x) (s : mSame h h' m e e') : mEl h' m e' x := by
  obtain ⟨q1, q2, q3, q4, q5, q6⟩ := H
  obtain ⟨s1, s2, s3, s4, s5⟩ := s
  refine ⟨q1, q2, s1.trans q3, s2.trans q4, fun i hi => (s5 i (by omega)).trans (q5 i hi), fun j h1 h2 => ?_⟩
  rw [← q6 j h1 h2]
  rcases yrP_or x j with z | z
  · rw [z, Int.add_zero, Int.add_zero]; exact s3
  · rw [z]; exact s4
def mLst (h : jH) (m : Nat) (a : Int) (es : List jE) : Prop := hA h (m + 11) a = es.length ∧ es.length ≤ 20 ∧ ∀ k : Nat, k < es.length → mEl h m (20 * a + k) (es.getD k dE)
theorem mLst.to {h h' : jH} {m : Nat} {a a' : Int} {es : List jE} (H : mLst h m a es) (c : hA h' (m + 11) a' = hA h (m + 11) a) (s : ∀ k : Nat, k < es.length → mSame h h' m (20 * a + k) (20 * a' + k)) : mLst h' m a' es :=
  ⟨c.trans H.1, H.2.1, fun k hk => (H.2.2 k hk).to (s k hk)⟩
theorem mFr.lst {m : Nat} {fs as : List Nat} {h h1 : jH} {a : Int} {es : List jE} (p : mFr m fs as h h1) (H : mLst h m a es) (n : ∀ a ∈ as, a < 11 ∨ 15 < a) : mLst h1 m a es :=
  H.to (p.a (fun q => by have := n 11 q; omega) a) (fun k _ => p.same (fun a q => by have := n a q; omega) _)
section MC
variable {d m : Nat} {h : jH} {Q : jO → jH → Prop}
theorem n_thrown (H : mSh h m) (k : Q (.inl (some (jI (hI h 812 m)))) h) : jCall d mX11_thrown [jR m] h Q := bX11_thrown (fun _ => ⟨H.k, fun _ => k⟩)
theorem n_throwing {v : Int} (H : mSh h m) (k : Q (.inl (some (jI 1))) (sI h 812 m v)) : jCall d mX11_throwing [jR m, jI v] h Q := bX11_throwing (fun _ _ => ⟨H.k, k⟩)
theorem n_isDigit {c : Int} (k : Q (.inl (some (jI (b2i (isD c))))) h) : jCall d mX11_isDigit [jI c] h Q := by
  have e : ∀ v : Int, v = b2i (isD c) → Q (.inl (some (jI v))) h := fun v e => e ▸ k
  refine bX11_isDigit (fun _ _ => ⟨fun z => e 0 ?_, fun z => ⟨fun z2 => e 0 ?_, fun z2 => e 1 ?_⟩⟩)
  · unfold isD; rw [decide_eq_false (by omega)]; rfl
  · unfold isD; rw [decide_eq_false (by omega)]; rfl
  · unfold isD; rw [decide_eq_true (by omega)]; rfl
theorem n_copy_loop {f t : Int} (H : mSh h m) (hf : 0 ≤ f ∧ f < 200) (ht : 0 ≤ t ∧ t < 200) (hn : f ≠ t) (n : Nat) : ∀ (i : Nat) (h1 : jH), i + n = 90 → mFr m [] [12, 13, 14, 15] h h1 → (∀ j : Int, (j < 90 * t ∨ 90 * t + i ≤ j) → hA h1 (m + 15) j = hA h (m + 15) j) → (∀ j : Nat, j < i → hA h1 (m + 15) (90 * t + j) = hA h (m + 15) (90 * f + j)) → (∀ h', mFr m [] [12, 13, 14, 15] h h' → (∀ a : Nat, a ≠ 15 → ∀ i : Int, hA h' (m + a) i = hA h1 (m + a) i) → (∀ j : Int, (j < 90 * t ∨ 90 * t + 90 ≤ j) → hA h' (m + 15) j = hA h (m + 15) j) → (∀ j : Nat, j < 90 → hA h' (m + 15) (90 * t + j) = hA h (m + 15) (90 * f + j)) → Q (.inl none) h') → jWp d mX11_copy 88 [(0, jR m), (5, jI f), (6, jI t), (7, jI i)] [] h1 Q := by
  induction n with
  | zero =>
    intro i h1 hi p u v k
    have e : i = 90 := by omega
    subst e
    exact bX11_copy_88 (fun _ _ _ _ => ⟨fun _ => k h1 p (fun _ _ _ => .refl _) u v, fun z => absurd (by decide) z⟩)
  | succ n ih =>
    intro i h1 hi p u v k
    have G := p.sh H
    refine bX11_copy_88 (fun _ _ _ _ => ⟨fun z => by omega, fun z => ⟨G.k, ?_⟩⟩)
    rw [G.r817, G.k817, G.n817]
    refine ⟨⟨by omega, by omega⟩, ⟨by omega, by omega⟩, ⟨by omega, by omega⟩, ⟨by omega, by omega⟩, .refl _, by omega, by omega, fun r => ⟨by omega, by omega, r, ⟨by omega, by omega⟩, ?_⟩⟩
    refine ih (i + 1) _ (by omega) (p.sA (by decide)) (fun j hj => ?_) (fun j hj => ?_) (fun h' p' a' u' v' => k h' p' (fun a ha j => ?_) u' v')
    · rw [hA_sA, if_neg (by omega)]
      exact u j (by omega)
    · rw [hA_sA]
      by_cases e : j = i
      · subst e
        rw [if_pos ⟨.refl _, .refl _⟩]
        exact u _ (by omega)
      · rw [if_neg (by omega)]
        exact v j (by omega)
    · rw [a' a ha j, hA_sA, if_neg (by omega)]
theorem n_copy {a k b j : Int} (H : mSh h m) (ha : 0 ≤ a ∧ a < 10) (hb : 0 ≤ b ∧ b < 10) (hk : 0 ≤ k ∧ k < 20) (hj : 0 ≤ j ∧ j < 20) (hn : a ≠ b) (kk : ∀ h', mFr m [] [12, 13, 14, 15] h h' → mSame h h' m (20 * a + k) (20 * b + j) → (∀ e : Int, e ≠ 20 * b + j → mSame h h' m e e) → Q (.inl none) h') : jCall d mX11_copy [jR m, jI a, jI k, jI b, jI j] h Q := by
  refine bX11_copy (fun ok _ _ _ _ => ?_)
  have o1 := fun i => ok.2.1 (m + 12) i
  have o2 := fun i => ok.2.1 (m + 13) i
  have o3 := fun i => ok.2.1 (m + 14) i
  rw [H.r814, H.r815, H.r816, H.k814, H.k815, H.k816, H.n814, H.n815, H.n816]
  refine ⟨⟨by omega, by omega⟩, ⟨by omega, by omega⟩, ⟨by omega, by omega⟩, ⟨by omega, by omega⟩, H.k, .refl _, by omega, by omega, fun _ => ⟨by omega, by omega, .refl _, by omega, fun _ => ⟨by omega, ⟨by omega, by omega⟩, ⟨by omega, by omega⟩, .refl _, by omega, by omega, fun _ => ⟨by omega, by omega, ⟨by omega, by omega⟩, ⟨by omega, by omega⟩, by omega, by omega, fun _ => ⟨by omega, by omega, ?_⟩⟩⟩⟩⟩
  generalize hf : 20 * a + k = f
  generalize ht : 20 * b + j = t
  rw [hf, ht] at kk
  refine n_copy_loop H (by omega) (by omega) (by omega) 90 0 _ (.refl _) ((((mFr.rfl.sA (by decide)).sA (by decide)).sA (by decide)).sA (by decide)) (fun i _ => by simp [hA_sA]) (fun i hi => absurd hi (by omega)) (fun h' p q u v => ?_)
  refine kk h' p ⟨?_, ?_, ?_, ?_, fun i hi => v i hi⟩ (fun e he => ⟨?_, ?_, ?_, ?_, fun i hi => u _ (by omega)⟩)
  · rw [q 12 (by decide), hA_sA, if_neg (by omega), hA_sA, if_neg (by omega), hA_sA, if_neg (by omega), hA_sA, if_pos ⟨.refl _, .refl _⟩]
  · rw [q 13 (by decide), hA_sA, if_neg (by omega), hA_sA, if_neg (by omega), hA_sA, if_pos ⟨.refl _, .refl _⟩, hA_sA, if_neg (by omega)]
  · rw [q 14 (by decide), hA_sA, if_neg (by omega), hA_sA, if_pos ⟨.refl _, .refl _⟩, hA_sA, if_neg (by omega), hA_sA, if_neg (by omega)]
  · rw [q 14 (by decide), hA_sA, if_pos ⟨.refl _, .refl _⟩, hA_sA, if_neg (by omega), hA_sA, if_neg (by omega), hA_sA, if_neg (by omega)]
  · rw [q 12 (by decide), hA_sA, if_neg (by omega), hA_sA, if_neg (by omega), hA_sA, if_neg (by omega), hA_sA, if_neg (by omega)]
  · rw [q 13 (by decide), hA_sA, if_neg (by omega), hA_sA, if_neg (by omega), hA_sA, if_neg (by omega), hA_sA, if_neg (by omega)]
  · rw [q 14 (by decide), hA_sA, if_neg (by omega), hA_sA, if_neg (by omega), hA_sA, if_neg (by omega), hA_sA, if_neg (by omega)]
  · rw [q 14 (by decide), hA_sA, if_neg (by omega), hA_sA, if_neg (by omega), hA_sA, if_neg (by omega), hA_sA, if_neg (by omega)]
end MC
