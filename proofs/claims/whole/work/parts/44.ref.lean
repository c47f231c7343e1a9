/-! THE REFERENCE: what never changes -/
def rs_ok (m : Nat) (σ : en_S) : Prop := en_cl σ m = some 7 ∧ (en_fr σ 702 m = some (m + 1) ∧ en_al σ (m + 1) = some (0, 24)) ∧ (en_fr σ 703 m = some (m + 2) ∧ en_al σ (m + 2) = some (0, 24)) ∧ (en_fr σ 704 m = some (m + 3) ∧ en_al σ (m + 3) = some (0, 24)) ∧ (en_fr σ 705 m = some (m + 4) ∧ en_al σ (m + 4) = some (0, 24)) ∧ (en_fr σ 706 m = some (m + 5) ∧ en_al σ (m + 5) = some (0, 24)) ∧ (en_fr σ 707 m = some (m + 6) ∧ en_al σ (m + 6) = some (1, 24)) ∧ (en_fr σ 708 m = some (m + 7) ∧ en_al σ (m + 7) = some (0, 24)) ∧ (en_fr σ 709 m = some (m + 8) ∧ en_al σ (m + 8) = some (0, 576)) ∧ (en_fr σ 711 m = some (m + 9) ∧ en_al σ (m + 9) = some (0, 40)) ∧ (en_fr σ 712 m = some (m + 10) ∧ en_al σ (m + 10) = some (0, 40)) ∧ (en_fr σ 713 m = some (m + 11) ∧ en_al σ (m + 11) = some (0, 40)) ∧ (en_fr σ 714 m = some (m + 12) ∧ en_al σ (m + 12) = some (0, 40)) ∧ (en_fr σ 715 m = some (m + 13) ∧ en_al σ (m + 13) = some (1, 40)) ∧ (en_fr σ 716 m = some (m + 14) ∧ en_al σ (m + 14) = some (0, 8)) ∧ (en_fr σ 717 m = some (m + 15) ∧ en_al σ (m + 15) = some (0, 40)) ∧ (en_fr σ 718 m = some (m + 16) ∧ en_al σ (m + 16) = some (0, 40)) ∧ (en_fr σ 719 m = some (m + 17) ∧ en_al σ (m + 17) = some (1, 24)) ∧ (en_fr σ 720 m = some (m + 18) ∧ en_al σ (m + 18) = some (2, 24)) ∧ (en_fr σ 721 m = some (m + 19) ∧ en_al σ (m + 19) = some (2, 24)) ∧ (en_fr σ 722 m = some (m + 20) ∧ en_al σ (m + 20) = some (2, 24)) ∧ (en_fr σ 723 m = some (m + 21) ∧ en_al σ (m + 21) = some (2, 24)) ∧ (en_fr σ 724 m = some (m + 22) ∧ en_al σ (m + 22) = some (2, 24)) ∧ (en_fr σ 725 m = some (m + 23) ∧ en_al σ (m + 23) = some (0, 24)) ∧ (en_fr σ 726 m = some (m + 24) ∧ en_al σ (m + 24) = some (0, 24)) ∧ (en_fr σ 728 m = some (m + 25) ∧ en_al σ (m + 25) = some (0, 64)) ∧ (en_fr σ 733 m = some (m + 26) ∧ en_al σ (m + 26) = some (0, 160)) ∧ (en_fr σ 737 m = some (m + 27) ∧ en_al σ (m + 27) = some (0, 96)) ∧ (en_fr σ 738 m = some (m + 28) ∧ en_al σ (m + 28) = some (0, 96)) ∧ (en_fr σ 739 m = some (m + 29) ∧ en_al σ (m + 29) = some (0, 4)) ∧ (en_fr σ 740 m = some (m + 30) ∧ en_al σ (m + 30) = some (0, 4)) ∧ (en_fr σ 741 m = some (m + 31) ∧ en_al σ (m + 31) = some (0, 4)) ∧ (en_fr σ 742 m = some (m + 32) ∧ en_al σ (m + 32) = some (0, 4)) ∧ (en_fr σ 743 m = some (m + 33) ∧ en_al σ (m + 33) = some (0, 4)) ∧ (en_fr σ 744 m = some (m + 34) ∧ en_al σ (m + 34) = some (0, 4)) ∧ (en_fr σ 745 m = some (m + 35) ∧ en_al σ (m + 35) = some (0, 4)) ∧ (en_fr σ 746 m = some (m + 36) ∧ en_al σ (m + 36) = some (1, 4)) ∧ (en_fr σ 747 m = some (m + 37) ∧ en_al σ (m + 37) = some (1, 4)) ∧ (en_fr σ 748 m = some (m + 38) ∧ en_al σ (m + 38) = some (1, 4)) ∧ (en_fr σ 749 m = some (m + 39) ∧ en_al σ (m + 39) = some (0, 4)) ∧ (en_fr σ 750 m = some (m + 40) ∧ en_al σ (m + 40) = some (0, 4)) ∧ (en_fr σ 751 m = some (m + 41) ∧ en_al σ (m + 41) = some (0, 4)) ∧ m + 42 ≤ en_nx σ ∧ fresh σ
theorem rs_c {m : Nat} {σ : en_S} (h : rs_ok m σ) : en_cl σ m = some 7 := h.1
theorem rs_f702 {m : Nat} {σ : en_S} (h : rs_ok m σ) : en_fr σ 702 m = some (m + 1) := h.2.1.1
theorem rs_a1 {m : Nat} {σ : en_S} (h : rs_ok m σ) : en_al σ (m + 1) = some (0, 24) := h.2.1.2
theorem rs_f703 {m : Nat} {σ : en_S} (h : rs_ok m σ) : en_fr σ 703 m = some (m + 2) := h.2.2.1.1
theorem rs_a2 {m : Nat} {σ : en_S} (h : rs_ok m σ) : en_al σ (m + 2) = some (0, 24) := h.2.2.1.2
theorem rs_f704 {m : Nat} {σ : en_S} (h : rs_ok m σ) : en_fr σ 704 m = some (m + 3) := h.2.2.2.1.1
theorem rs_a3 {m : Nat} {σ : en_S} (h : rs_ok m σ) : en_al σ (m + 3) = some (0, 24) := h.2.2.2.1.2
theorem rs_f705 {m : Nat} {σ : en_S} (h : rs_ok m σ) : en_fr σ 705 m = some (m + 4) := h.2.2.2.2.1.1
theorem rs_a4 {m : Nat} {σ : en_S} (h : rs_ok m σ) : en_al σ (m + 4) = some (0, 24) := h.2.2.2.2.1.2
theorem rs_f706 {m : Nat} {σ : en_S} (h : rs_ok m σ) : en_fr σ 706 m = some (m + 5) := h.2.2.2.2.2.1.1
theorem rs_a5 {m : Nat} {σ : en_S} (h : rs_ok m σ) : en_al σ (m + 5) = some (0, 24) := h.2.2.2.2.2.1.2
theorem rs_f707 {m : Nat} {σ : en_S} (h : rs_ok m σ) : en_fr σ 707 m = some (m + 6) := h.2.2.2.2.2.2.1.1
theorem rs_a6 {m : Nat} {σ : en_S} (h : rs_ok m σ) : en_al σ (m + 6) = some (1, 24) := h.2.2.2.2.2.2.1.2
theorem rs_f708 {m : Nat} {σ : en_S} (h : rs_ok m σ) : en_fr σ 708 m = some (m + 7) := h.2.2.2.2.2.2.2.1.1
theorem rs_a7 {m : Nat} {σ : en_S} (h : rs_ok m σ) : en_al σ (m + 7) = some (0, 24) := h.2.2.2.2.2.2.2.1.2
theorem rs_f709 {m : Nat} {σ : en_S} (h : rs_ok m σ) : en_fr σ 709 m = some (m + 8) := h.2.2.2.2.2.2.2.2.1.1
theorem rs_a8 {m : Nat} {σ : en_S} (h : rs_ok m σ) : en_al σ (m + 8) = some (0, 576) := h.2.2.2.2.2.2.2.2.1.2
theorem rs_f711 {m : Nat} {σ : en_S} (h : rs_ok m σ) : en_fr σ 711 m = some (m + 9) := h.2.2.2.2.2.2.2.2.2.1.1
theorem rs_a9 {m : Nat} {σ : en_S} (h : rs_ok m σ) : en_al σ (m + 9) = some (0, 40) := h.2.2.2.2.2.2.2.2.2.1.2
theorem rs_f712 {m : Nat} {σ : en_S} (h : rs_ok m σ) : en_fr σ 712 m = some (m + 10) := h.2.2.2.2.2.2.2.2.2.2.1.1
theorem rs_a10 {m : Nat} {σ : en_S} (h : rs_ok m σ) : en_al σ (m + 10) = some (0, 40) := h.2.2.2.2.2.2.2.2.2.2.1.2
theorem rs_f713 {m : Nat} {σ : en_S} (h : rs_ok m σ) : en_fr σ 713 m = some (m + 11) := h.2.2.2.2.2.2.2.2.2.2.2.1.1
theorem rs_a11 {m : Nat} {σ : en_S} (h : rs_ok m σ) : en_al σ (m + 11) = some (0, 40) := h.2.2.2.2.2.2.2.2.2.2.2.1.2
theorem rs_f714 {m : Nat} {σ : en_S} (h : rs_ok m σ) : en_fr σ 714 m = some (m + 12) := h.2.2.2.2.2.2.2.2.2.2.2.2.1.1
theorem rs_a12 {m : Nat} {σ : en_S} (h : rs_ok m σ) : en_al σ (m + 12) = some (0, 40) := h.2.2.2.2.2.2.2.2.2.2.2.2.1.2
theorem rs_f715 {m : Nat} {σ : en_S} (h : rs_ok m σ) : en_fr σ 715 m = some (m + 13) := h.2.2.2.2.2.2.2.2.2.2.2.2.2.1.1
theorem rs_a13 {m : Nat} {σ : en_S} (h : rs_ok m σ) : en_al σ (m + 13) = some (1, 40) := h.2.2.2.2.2.2.2.2.2.2.2.2.2.1.2
theorem rs_f716 {m : Nat} {σ : en_S} (h : rs_ok m σ) : en_fr σ 716 m = some (m + 14) := h.2.2.2.2.2.2.2.2.2.2.2.2.2.2.1.1
theorem rs_a14 {m : Nat} {σ : en_S} (h : rs_ok m σ) : en_al σ (m + 14) = some (0, 8) := h.2.2.2.2.2.2.2.2.2.2.2.2.2.2.1.2
theorem rs_f717 {m : Nat} {σ : en_S} (h : rs_ok m σ) : en_fr σ 717 m = some (m + 15) := h.2.2.2.2.2.2.2.2.2.2.2.2.2.2.2.1.1
theorem rs_a15 {m : Nat} {σ : en_S} (h : rs_ok m σ) : en_al σ (m + 15) = some (0, 40) := h.2.2.2.2.2.2.2.2.2.2.2.2.2.2.2.1.2
theorem rs_f718 {m : Nat} {σ : en_S} (h : rs_ok m σ) : en_fr σ 718 m = some (m + 16) := h.2.2.2.2.2.2.2.2.2.2.2.2.2.2.2.2.1.1
theorem rs_a16 {m : Nat} {σ : en_S} (h : rs_ok m σ) : en_al σ (m + 16) = some (0, 40) := h.2.2.2.2.2.2.2.2.2.2.2.2.2.2.2.2.1.2
theorem rs_f719 {m : Nat} {σ : en_S} (h : rs_ok m σ) : en_fr σ 719 m = some (m + 17) := h.2.2.2.2.2.2.2.2.2.2.2.2.2.2.2.2.2.1.1
theorem rs_a17 {m : Nat} {σ : en_S} (h : rs_ok m σ) : en_al σ (m + 17) = some (1, 24) := h.2.2.2.2.2.2.2.2.2.2.2.2.2.2.2.2.2.1.2
theorem rs_f720 {m : Nat} {σ : en_S} (h : rs_ok m σ) : en_fr σ 720 m = some (m + 18) := h.2.2.2.2.2.2.2.2.2.2.2.2.2.2.2.2.2.2.1.1
theorem rs_a18 {m : Nat} {σ : en_S} (h : rs_ok m σ) : en_al σ (m + 18) = some (2, 24) := h.2.2.2.2.2.2.2.2.2.2.2.2.2.2.2.2.2.2.1.2
theorem rs_f721 {m : Nat} {σ : en_S} (h : rs_ok m σ) : en_fr σ 721 m = some (m + 19) := h.2.2.2.2.2.2.2.2.2.2.2.2.2.2.2.2.2.2.2.1.1
theorem rs_a19 {m : Nat} {σ : en_S} (h : rs_ok m σ) : en_al σ (m + 19) = some (2, 24) := h.2.2.2.2.2.2.2.2.2.2.2.2.2.2.2.2.2.2.2.1.2
theorem rs_f722 {m : Nat} {σ : en_S} (h : rs_ok m σ) : en_fr σ 722 m = some (m + 20) := h.2.2.2.2.2.2.2.2.2.2.2.2.2.2.2.2.2.2.2.2.1.1
theorem rs_a20 {m : Nat} {σ : en_S} (h : rs_ok m σ) : en_al σ (m + 20) = some (2, 24) := h.2.2.2.2.2.2.2.2.2.2.2.2.2.2.2.2.2.2.2.2.1.2
theorem rs_f723 {m : Nat} {σ : en_S} (h : rs_ok m σ) : en_fr σ 723 m = some (m + 21) := h.2.2.2.2.2.2.2.2.2.2.2.2.2.2.2.2.2.2.2.2.2.1.1
theorem rs_a21 {m : Nat} {σ : en_S} (h : rs_ok m σ) : en_al σ (m + 21) = some (2, 24) := h.2.2.2.2.2.2.2.2.2.2.2.2.2.2.2.2.2.2.2.2.2.1.2
theorem rs_f724 {m : Nat} {σ : en_S} (h : rs_ok m σ) : en_fr σ 724 m = some (m + 22) := h.2.2.2.2.2.2.2.2.2.2.2.2.2.2.2.2.2.2.2.2.2.2.1.1
theorem rs_a22 {m : Nat} {σ : en_S} (h : rs_ok m σ) : en_al σ (m + 22) = some (2, 24) := h.2.2.2.2.2.2.2.2.2.2.2.2.2.2.2.2.2.2.2.2.2.2.1.2
theorem rs_f725 {m : Nat} {σ : en_S} (h : rs_ok m σ) : en_fr σ 725 m = some (m + 23) := h.2.2.2.2.2.2.2.2.2.2.2.2.2.2.2.2.2.2.2.2.2.2.2.1.1
theorem rs_a23 {m : Nat} {σ : en_S} (h : rs_ok m σ) : en_al σ (m + 23) = some (0, 24) := h.2.2.2.2.2.2.2.2.2.2.2.2.2.2.2.2.2.2.2.2.2.2.2.1.2
theorem rs_f726 {m : Nat} {σ : en_S} (h : rs_ok m σ) : en_fr σ 726 m = some (m + 24) := h.2.2.2.2.2.2.2.2.2.2.2.2.2.2.2.2.2.2.2.2.2.2.2.2.1.1
theorem rs_a24 {m : Nat} {σ : en_S} (h : rs_ok m σ) : en_al σ (m + 24) = some (0, 24) := h.2.2.2.2.2.2.2.2.2.2.2.2.2.2.2.2.2.2.2.2.2.2.2.2.1.2
theorem rs_f728 {m : Nat} {σ : en_S} (h : rs_ok m σ) : en_fr σ 728 m = some (m + 25) := h.2.2.2.2.2.2.2.2.2.2.2.2.2.2.2.2.2.2.2.2.2.2.2.2.2.1.1
theorem rs_a25 {m : Nat} {σ : en_S} (h : rs_ok m σ) : en_al σ (m + 25) = some (0, 64) := h.2.2.2.2.2.2.2.2.2.2.2.2.2.2.2.2.2.2.2.2.2.2.2.2.2.1.2
theorem rs_f733 {m : Nat} {σ : en_S} (h : rs_ok m σ) : en_fr σ 733 m = some (m + 26) := h.2.2.2.2.2.2.2.2.2.2.2.2.2.2.2.2.2.2.2.2.2.2.2.2.2.2.1.1
theorem rs_a26 {m : Nat} {σ : en_S} (h : rs_ok m σ) : en_al σ (m + 26) = some (0, 160) := h.2.2.2.2.2.2.2.2.2.2.2.2.2.2.2.2.2.2.2.2.2.2.2.2.2.2.1.2
theorem rs_f737 {m : Nat} {σ : en_S} (h : rs_ok m σ) : en_fr σ 737 m = some (m + 27) := h.2.2.2.2.2.2.2.2.2.2.2.2.2.2.2.2.2.2.2.2.2.2.2.2.2.2.2.1.1
theorem rs_a27 {m : Nat} {σ : en_S} (h : rs_ok m σ) : en_al σ (m + 27) = some (0, 96) := h.2.2.2.2.2.2.2.2.2.2.2.2.2.2.2.2.2.2.2.2.2.2.2.2.2.2.2.1.2
theorem rs_f738 {m : Nat} {σ : en_S} (h : rs_ok m σ) : en_fr σ 738 m = some (m + 28) := h.2.2.2.2.2.2.2.2.2.2.2.2.2.2.2.2.2.2.2.2.2.2.2.2.2.2.2.2.1.1
theorem rs_a28 {m : Nat} {σ : en_S} (h : rs_ok m σ) : en_al σ (m + 28) = some (0, 96) := h.2.2.2.2.2.2.2.2.2.2.2.2.2.2.2.2.2.2.2.2.2.2.2.2.2.2.2.2.1.2
theorem rs_f739 {m : Nat} {σ : en_S} (h : rs_ok m σ) : en_fr σ 739 m = some (m + 29) := h.2.2.2.2.2.2.2.2.2.2.2.2.2.2.2.2.2.2.2.2.2.2.2.2.2.2.2.2.2.1.1
theorem rs_a29 {m : Nat} {σ : en_S} (h : rs_ok m σ) : en_al σ (m + 29) = some (0, 4) := h.2.2.2.2.2.2.2.2.2.2.2.2.2.2.2.2.2.2.2.2.2.2.2.2.2.2.2.2.2.1.2
theorem rs_f740 {m : Nat} {σ : en_S} (h : rs_ok m σ) : en_fr σ 740 m = some (m + 30) := h.2.2.2.2.2.2.2.2.2.2.2.2.2.2.2.2.2.2.2.2.2.2.2.2.2.2.2.2.2.2.1.1
theorem rs_a30 {m : Nat} {σ : en_S} (h : rs_ok m σ) : en_al σ (m + 30) = some (0, 4) := h.2.2.2.2.2.2.2.2.2.2.2.2.2.2.2.2.2.2.2.2.2.2.2.2.2.2.2.2.2.2.1.2
theorem rs_f741 {m : Nat} {σ : en_S} (h : rs_ok m σ) : en_fr σ 741 m = some (m + 31) := h.2.2.2.2.2.2.2.2.2.2.2.2.2.2.2.2.2.2.2.2.2.2.2.2.2.2.2.2.2.2.2.1.1
theorem rs_a31 {m : Nat} {σ : en_S} (h : rs_ok m σ) : en_al σ (m + 31) = some (0, 4) := h.2.2.2.2.2.2.2.2.2.2.2.2.2.2.2.2.2.2.2.2.2.2.2.2.2.2.2.2.2.2.2.1.2
theorem rs_f742 {m : Nat} {σ : en_S} (h : rs_ok m σ) : en_fr σ 742 m = some (m + 32) := h.2.2.2.2.2.2.2.2.2.2.2.2.2.2.2.2.2.2.2.2.2.2.2.2.2.2.2.2.2.2.2.2.1.1
theorem rs_a32 {m : Nat} {σ : en_S} (h : rs_ok m σ) : en_al σ (m + 32) = some (0, 4) := h.2.2.2.2.2.2.2.2.2.2.2.2.2.2.2.2.2.2.2.2.2.2.2.2.2.2.2.2.2.2.2.2.1.2
theorem rs_f743 {m : Nat} {σ : en_S} (h : rs_ok m σ) : en_fr σ 743 m = some (m + 33) := h.2.2.2.2.2.2.2.2.2.2.2.2.2.2.2.2.2.2.2.2.2.2.2.2.2.2.2.2.2.2.2.2.2.1.1
theorem rs_a33 {m : Nat} {σ : en_S} (h : rs_ok m σ) : en_al σ (m + 33) = some (0, 4) := h.2.2.2.2.2.2.2.2.2.2.2.2.2.2.2.2.2.2.2.2.2.2.2.2.2.2.2.2.2.2.2.2.2.1.2
theorem rs_f744 {m : Nat} {σ : en_S} (h : rs_ok m σ) : en_fr σ 744 m = some (m + 34) := h.2.2.2.2.2.2.2.2.2.2.2.2.2.2.2.2.2.2.2.2.2.2.2.2.2.2.2.2.2.2.2.2.2.2.1.1
theorem rs_a34 {m : Nat} {σ : en_S} (h : rs_ok m σ) : en_al σ (m + 34) = some (0, 4) := h.2.2.2.2.2.2.2.2.2.2.2.2.2.2.2.2.2.2.2.2.2.2.2.2.2.2.2.2.2.2.2.2.2.2.1.2
theorem rs_f745 {m : Nat} {σ : en_S} (h : rs_ok m σ) : en_fr σ 745 m = some (m + 35) := h.2.2.2.2.2.2.2.2.2.2.2.2.2.2.2.2.2.2.2.2.2.2.2.2.2.2.2.2.2.2.2.2.2.2.2.1.1
theorem rs_a35 {m : Nat} {σ : en_S} (h : rs_ok m σ) : en_al σ (m + 35) = some (0, 4) := h.2.2.2.2.2.2.2.2.2.2.2.2.2.2.2.2.2.2.2.2.2.2.2.2.2.2.2.2.2.2.2.2.2.2.2.1.2
theorem rs_f746 {m : Nat} {σ : en_S} (h : rs_ok m σ) : en_fr σ 746 m = some (m + 36) := h.2.2.2.2.2.2.2.2.2.2.2.2.2.2.2.2.2.2.2.2.2.2.2.2.2.2.2.2.2.2.2.2.2.2.2.2.1.1
theorem rs_a36 {m : Nat} {σ : en_S} (h : rs_ok m σ) : en_al σ (m + 36) = some (1, 4) := h.2.2.2.2.2.2.2.2.2.2.2.2.2.2.2.2.2.2.2.2.2.2.2.2.2.2.2.2.2.2.2.2.2.2.2.2.1.2
theorem rs_f747 {m : Nat} {σ : en_S} (h : rs_ok m σ) : en_fr σ 747 m = some (m + 37) := h.2.2.2.2.2.2.2.2.2.2.2.2.2.2.2.2.2.2.2.2.2.2.2.2.2.2.2.2.2.2.2.2.2.2.2.2.2.1.1
theorem rs_a37 {m : Nat} {σ : en_S} (h : rs_ok m σ) : en_al σ (m + 37) = some (1, 4) := h.2.2.2.2.2.2.2.2.2.2.2.2.2.2.2.2.2.2.2.2.2.2.2.2.2.2.2.2.2.2.2.2.2.2.2.2.2.1.2
theorem rs_f748 {m : Nat} {σ : en_S} (h : rs_ok m σ) : en_fr σ 748 m = some (m + 38) := h.2.2.2.2.2.2.2.2.2.2.2.2.2.2.2.2.2.2.2.2.2.2.2.2.2.2.2.2.2.2.2.2.2.2.2.2.2.2.1.1
theorem rs_a38 {m : Nat} {σ : en_S} (h : rs_ok m σ) : en_al σ (m + 38) = some (1, 4) := h.2.2.2.2.2.2.2.2.2.2.2.2.2.2.2.2.2.2.2.2.2.2.2.2.2.2.2.2.2.2.2.2.2.2.2.2.2.2.1.2
theorem rs_f749 {m : Nat} {σ : en_S} (h : rs_ok m σ) : en_fr σ 749 m = some (m + 39) := h.2.2.2.2.2.2.2.2.2.2.2.2.2.2.2.2.2.2.2.2.2.2.2.2.2.2.2.2.2.2.2.2.2.2.2.2.2.2.2.1.1
theorem rs_a39 {m : Nat} {σ : en_S} (h : rs_ok m σ) : en_al σ (m + 39) = some (0, 4) := h.2.2.2.2.2.2.2.2.2.2.2.2.2.2.2.2.2.2.2.2.2.2.2.2.2.2.2.2.2.2.2.2.2.2.2.2.2.2.2.1.2
theorem rs_f750 {m : Nat} {σ : en_S} (h : rs_ok m σ) : en_fr σ 750 m = some (m + 40) := h.2.2.2.2.2.2.2.2.2.2.2.2.2.2.2.2.2.2.2.2.2.2.2.2.2.2.2.2.2.2.2.2.2.2.2.2.2.2.2.2.1.1
theorem rs_a40 {m : Nat} {σ : en_S} (h : rs_ok m σ) : en_al σ (m + 40) = some (0, 4) := h.2.2.2.2.2.2.2.2.2.2.2.2.2.2.2.2.2.2.2.2.2.2.2.2.2.2.2.2.2.2.2.2.2.2.2.2.2.2.2.2.1.2
theorem rs_f751 {m : Nat} {σ : en_S} (h : rs_ok m σ) : en_fr σ 751 m = some (m + 41) := h.2.2.2.2.2.2.2.2.2.2.2.2.2.2.2.2.2.2.2.2.2.2.2.2.2.2.2.2.2.2.2.2.2.2.2.2.2.2.2.2.2.1.1
theorem rs_a41 {m : Nat} {σ : en_S} (h : rs_ok m σ) : en_al σ (m + 41) = some (0, 4) := h.2.2.2.2.2.2.2.2.2.2.2.2.2.2.2.2.2.2.2.2.2.2.2.2.2.2.2.2.2.2.2.2.2.2.2.2.2.2.2.2.2.1.2
theorem rs_nx {m : Nat} {σ : en_S} (h : rs_ok m σ) : m + 42 ≤ en_nx σ := h.2.2.2.2.2.2.2.2.2.2.2.2.2.2.2.2.2.2.2.2.2.2.2.2.2.2.2.2.2.2.2.2.2.2.2.2.2.2.2.2.2.2.1
theorem rs_fr {m : Nat} {σ : en_S} (h : rs_ok m σ) : fresh σ := h.2.2.2.2.2.2.2.2.2.2.2.2.2.2.2.2.2.2.2.2.2.2.2.2.2.2.2.2.2.2.2.2.2.2.2.2.2.2.2.2.2.2.2
theorem rs_ok.ag {m : Nat} {σ σ' : en_S} {F : Nat → Nat → Prop} {V : Nat → Prop} (h : rs_ok m σ) (g : ag σ σ' F V) (hf : fresh σ') (hF : ∀ f, f = 702 ∨ f = 703 ∨ f = 704 ∨ f = 705 ∨ f = 706 ∨ f = 707 ∨ f = 708 ∨ f = 709 ∨ f = 711 ∨ f = 712 ∨ f = 713 ∨ f = 714 ∨ f = 715 ∨ f = 716 ∨ f = 717 ∨ f = 718 ∨ f = 719 ∨ f = 720 ∨ f = 721 ∨ f = 722 ∨ f = 723 ∨ f = 724 ∨ f = 725 ∨ f = 726 ∨ f = 728 ∨ f = 733 ∨ f = 737 ∨ f = 738 ∨ f = 739 ∨ f = 740 ∨ f = 741 ∨ f = 742 ∨ f = 743 ∨ f = 744 ∨ f = 745 ∨ f = 746 ∨ f = 747 ∨ f = 748 ∨ f = 749 ∨ f = 750 ∨ f = 751 → F f m) : rs_ok m σ' := by
  have x := rs_nx h
  have al : ∀ j, j < 42 → en_al σ' (m + j) = en_al σ (m + j) := fun j hj => (g.2 _ (by omega)).2.1
  have fr : ∀ f, F f m → en_fr σ' f m = en_fr σ f m := fun f hf => ((g.2 m (by omega)).2.2.1 f hf).2.1
  refine ⟨by rw [(g.2 m (by omega)).1]; exact rs_c h, ⟨by rw [fr 702 (hF 702 (by simp))]; exact rs_f702 h, by rw [al 1 (by decide)]; exact rs_a1 h⟩, ⟨by rw [fr 703 (hF 703 (by simp))]; exact rs_f703 h, by rw [al 2 (by decide)]; exact rs_a2 h⟩, ⟨by rw [fr 704 (hF 704 (by simp))]; exact rs_f704 h, by rw [al 3 (by decide)]; exact rs_a3 h⟩, ⟨by rw [fr 705 (hF 705 (by simp))]; exact rs_f705 h, by rw [al 4 (by decide)]; exact rs_a4 h⟩, ⟨by rw [fr 706 (hF 706 (by simp))]; exact rs_f706 h, by rw [al 5 (by decide)]; exact rs_a5 h⟩, ⟨by rw [fr 707 (hF 707 (by simp))]; exact rs_f707 h, by rw [al 6 (by decide)]; exact rs_a6 h⟩, ⟨by rw [fr 708 (hF 708 (by simp))]; exact rs_f708 h, by rw [al 7 (by decide)]; exact rs_a7 h⟩, ⟨by rw [fr 709 (hF 709 (by simp))]; exact rs_f709 h, by rw [al 8 (by decide)]; exact rs_a8 h⟩, ⟨by rw [fr 711 (hF 711 (by simp))]; exact rs_f711 h, by rw [al 9 (by decide)]; exact rs_a9 h⟩, ⟨by rw [fr 712 (hF 712 (by simp))]; exact rs_f712 h, by rw [al 10 (by decide)]; exact rs_a10 h⟩, ⟨by rw [fr 713 (hF 713 (by simp))]; exact rs_f713 h, by rw [al 11 (by decide)]; exact rs_a11 h⟩, ⟨by rw [fr 714 (hF 714 (by simp))]; exact rs_f714 h, by rw [al 12 (by decide)]; exact rs_a12 h⟩, ⟨by rw [fr 715 (hF 715 (by simp))]; exact rs_f715 h, by rw [al 13 (by decide)]; exact rs_a13 h⟩, ⟨by rw [fr 716 (hF 716 (by simp))]; exact rs_f716 h, by rw [al 14 (by decide)]; exact rs_a14 h⟩, ⟨by rw [fr 717 (hF 717 (by simp))]; exact rs_f717 h, by rw [al 15 (by decide)]; exact rs_a15 h⟩, ⟨by rw [fr 718 (hF 718 (by simp))]; exact rs_f718 h, by rw [al 16 (by decide)]; exact rs_a16 h⟩, ⟨by rw [fr 719 (hF 719 (by simp))]; exact rs_f719 h, by rw [al 17 (by decide)]; exact rs_a17 h⟩, ⟨by rw [fr 720 (hF 720 (by simp))]; exact rs_f720 h, by rw [al 18 (by decide)]; exact rs_a18 h⟩, ⟨by rw [fr 721 (hF 721 (by simp))]; exact rs_f721 h, by rw [al 19 (by decide)]; exact rs_a19 h⟩, ⟨by rw [fr 722 (hF 722 (by simp))]; exact rs_f722 h, by rw [al 20 (by decide)]; exact rs_a20 h⟩, ⟨by rw [fr 723 (hF 723 (by simp))]; exact rs_f723 h, by rw [al 21 (by decide)]; exact rs_a21 h⟩, ⟨by rw [fr 724 (hF 724 (by simp))]; exact rs_f724 h, by rw [al 22 (by decide)]; exact rs_a22 h⟩, ⟨by rw [fr 725 (hF 725 (by simp))]; exact rs_f725 h, by rw [al 23 (by decide)]; exact rs_a23 h⟩, ⟨by rw [fr 726 (hF 726 (by simp))]; exact rs_f726 h, by rw [al 24 (by decide)]; exact rs_a24 h⟩, ⟨by rw [fr 728 (hF 728 (by simp))]; exact rs_f728 h, by rw [al 25 (by decide)]; exact rs_a25 h⟩, ⟨by rw [fr 733 (hF 733 (by simp))]; exact rs_f733 h, by rw [al 26 (by decide)]; exact rs_a26 h⟩, ⟨by rw [fr 737 (hF 737 (by simp))]; exact rs_f737 h, by rw [al 27 (by decide)]; exact rs_a27 h⟩, ⟨by rw [fr 738 (hF 738 (by simp))]; exact rs_f738 h, by rw [al 28 (by decide)]; exact rs_a28 h⟩, ⟨by rw [fr 739 (hF 739 (by simp))]; exact rs_f739 h, by rw [al 29 (by decide)]; exact rs_a29 h⟩, ⟨by rw [fr 740 (hF 740 (by simp))]; exact rs_f740 h, by rw [al 30 (by decide)]; exact rs_a30 h⟩, ⟨by rw [fr 741 (hF 741 (by simp))]; exact rs_f741 h, by rw [al 31 (by decide)]; exact rs_a31 h⟩, ⟨by rw [fr 742 (hF 742 (by simp))]; exact rs_f742 h, by rw [al 32 (by decide)]; exact rs_a32 h⟩, ⟨by rw [fr 743 (hF 743 (by simp))]; exact rs_f743 h, by rw [al 33 (by decide)]; exact rs_a33 h⟩, ⟨by rw [fr 744 (hF 744 (by simp))]; exact rs_f744 h, by rw [al 34 (by decide)]; exact rs_a34 h⟩, ⟨by rw [fr 745 (hF 745 (by simp))]; exact rs_f745 h, by rw [al 35 (by decide)]; exact rs_a35 h⟩, ⟨by rw [fr 746 (hF 746 (by simp))]; exact rs_f746 h, by rw [al 36 (by decide)]; exact rs_a36 h⟩, ⟨by rw [fr 747 (hF 747 (by simp))]; exact rs_f747 h, by rw [al 37 (by decide)]; exact rs_a37 h⟩, ⟨by rw [fr 748 (hF 748 (by simp))]; exact rs_f748 h, by rw [al 38 (by decide)]; exact rs_a38 h⟩, ⟨by rw [fr 749 (hF 749 (by simp))]; exact rs_f749 h, by rw [al 39 (by decide)]; exact rs_a39 h⟩, ⟨by rw [fr 750 (hF 750 (by simp))]; exact rs_f750 h, by rw [al 40 (by decide)]; exact rs_a40 h⟩, ⟨by rw [fr 751 (hF 751 (by simp))]; exact rs_f751 h, by rw [al 41 (by decide)]; exact rs_a41 h⟩, Nat.le_trans x g.1, hf⟩
/-! what changes -/
def rd_tree (m : Nat) (A : st_A) (σ : en_S) : Prop := ∀ n, n < tr_N (sa_T A) → en_ai σ (m + 1) n = tr_kd (sa_T A) n ∧ (tr_el (sa_T A) n → en_ai σ (m + 2) n = tr_nm (sa_T A) n) ∧ en_ai σ (m + 3) n = st_num (tr_pa (sa_T A) n) ∧ en_ai σ (m + 4) n = st_num (tr_sh (sa_T A) n) ∧ en_ai σ (m + 5) n = st_num (tr_ho (sa_T A) n) ∧ en_ai σ (m + 7) n = nI (tr_ch (sa_T A) n).length ∧ ∀ j c, (tr_ch (sa_T A) n)[j]? = some c → en_ai σ (m + 8) (24 * n + j) = nI c
def rd_new (m : Nat) (A : st_A) (σ : en_S) : Prop := ∀ n, tr_N (sa_T A) ≤ n → n < 24 → en_ai σ (m + 6) n = 0 ∧ en_ai σ (m + 7) n = 0 ∧ en_ai σ (m + 17) n = 0
def rd_mark (m : Nat) (A : st_A) (σ : en_S) : Prop := ∀ n, n < tr_N (sa_T A) → en_ai σ (m + 6) n = st_b (sa_K A 0 n)
def rd_box (m : Nat) (A : st_A) (σ : en_S) : Prop := ∀ n, n < tr_N (sa_T A) → en_ai σ (m + 17) n = st_b (sa_B A n).isSome ∧ ∀ b, sa_B A n = some b → en_ad σ (m + 18) n = b.1 ∧ en_ad σ (m + 19) n = b.2.1 ∧ en_ad σ (m + 20) n = b.2.2.1 ∧ en_ad σ (m + 21) n = b.2.2.2.1 ∧ en_ad σ (m + 22) n = b.2.2.2.2.1 ∧ en_ai σ (m + 23) n = b.2.2.2.2.2
def rd_lis (m : Nat) (A : st_A) (σ : en_S) : Prop := (∀ k, k < sa_D A 0 0 → en_ai σ (m + 9) k = nI (sa_D A 1 k) ∧ en_ai σ (m + 10) k = sa_I A 0 k ∧ en_ai σ (m + 11) k = nI (sa_D A 3 k) ∧ en_ai σ (m + 12) k = nI (sa_D A 2 k) ∧ en_ai σ (m + 13) k = st_b (sa_K A 1 k)) ∧ ∀ k, sa_D A 0 0 ≤ k → k < 40 → en_ai σ (m + 13) k = 0
def rd_scr (m : Nat) (A : st_A) (σ : en_S) : Prop := ∀ s, s < 8 → en_ai σ (m + 14) s = nI (sa_D A 4 s) ∧ ∀ j, j < 5 → en_ai σ (m + 15) (5 * s + j) = nI (sa_D A 5 (5 * s + j)) ∧ en_ai σ (m + 16) (5 * s + j) = sa_I A 1 (5 * s + j)
def rd_log (m : Nat) (A : st_A) (σ : en_S) : Prop := en_fi σ 732 m = nI (sa_D A 0 1) ∧ ∀ j, j < 160 → en_ai σ (m + 26) j = sa_I A 2 j
def rd_obj (m : Nat) (A : st_A) (σ : en_S) : Prop := en_fi σ 701 m = nI (tr_N (sa_T A)) ∧ en_fi σ 710 m = nI (sa_D A 0 0) ∧ en_fi σ 734 m = sa_I A 3 0
def RX (m : Nat) (A : st_A) (σ : en_S) : Prop := rs_ok m σ ∧ rd_tree m A σ ∧ rd_new m A σ ∧ rd_mark m A σ ∧ rd_box m A σ ∧ rd_lis m A σ ∧ rd_scr m A σ ∧ rd_log m A σ ∧ rd_obj m A σ ∧ st_wf A
/-- what the reference's calls leave alone -/
def rF (f a : Nat) : Prop := f < 700
def rV (m a : Nat) : Prop := a ≤ m ∨ m + 42 ≤ a
theorem rd_tree.ag {m : Nat} {A : st_A} {σ σ' : en_S} {F : Nat → Nat → Prop} {V : Nat → Prop} (h : rd_tree m A σ) (g : ag σ σ' F V) (hx : m + 42 ≤ en_nx σ) (hV : V (m + 1) ∧ V (m + 2) ∧ V (m + 3) ∧ V (m + 4) ∧ V (m + 5) ∧ V (m + 7) ∧ V (m + 8)) : rd_tree m A σ' := by
  have r : ∀ j, j < 42 → V (m + j) → en_ai σ' (m + j) = en_ai σ (m + j) := fun j hj hv => ((g.2 _ (by omega)).2.2.2 hv).1
  intro n hn
  rw [r 1 (by decide) hV.1, r 2 (by decide) hV.2.1, r 3 (by decide) hV.2.2.1, r 4 (by decide) hV.2.2.2.1, r 5 (by decide) hV.2.2.2.2.1, r 7 (by decide) hV.2.2.2.2.2.1, r 8 (by decide) hV.2.2.2.2.2.2]
  exact h n hn
theorem rd_new.ag {m : Nat} {A : st_A} {σ σ' : en_S} {F : Nat → Nat → Prop} {V : Nat → Prop} (h : rd_new m A σ) (g : ag σ σ' F V) (hx : m + 42 ≤ en_nx σ) (hV : V (m + 6) ∧ V (m + 7) ∧ V (m + 17)) : rd_new m A σ' := by
  have r : ∀ j, j < 42 → V (m + j) → en_ai σ' (m + j) = en_ai σ (m + j) := fun j hj hv => ((g.2 _ (by omega)).2.2.2 hv).1
  intro n h1 h2
  rw [r 6 (by decide) hV.1, r 7 (by decide) hV.2.1, r 17 (by decide) hV.2.2]
  exact h n h1 h2
theorem rd_mark.ag {m : Nat} {A : st_A} {σ σ' : en_S} {F : Nat → Nat → Prop} {V : Nat → Prop} (h : rd_mark m A σ) (g : ag σ σ' F V) (hx : m + 42 ≤ en_nx σ) (hV : V (m + 6)) : rd_mark m A σ' := by
  intro n hn
  rw [((g.2 _ (by omega)).2.2.2 hV).1]
  exact h n hn
theorem rd_box.ag {m : Nat} {A : st_A} {σ σ' : en_S} {F : Nat → Nat → Prop} {V : Nat → Prop} (h : rd_box m A σ) (g : ag σ σ' F V) (hx : m + 42 ≤ en_nx σ) (hV : ∀ j, 17 ≤ j → j ≤ 23 → V (m + j)) : rd_box m A σ' := by
  have r : ∀ j, 17 ≤ j → j ≤ 23 → en_ai σ' (m + j) = en_ai σ (m + j) ∧ en_ad σ' (m + j) = en_ad σ (m + j) := fun j h1 h2 => ⟨((g.2 _ (by omega)).2.2.2 (hV j h1 h2)).1, ((g.2 _ (by omega)).2.2.2 (hV j h1 h2)).2.2.1⟩
  intro n hn
  rw [(r 17 (by decide) (by decide)).1, (r 18 (by decide) (by decide)).2, (r 19 (by decide) (by decide)).2, (r 20 (by decide) (by decide)).2, (r 21 (by decide) (by decide)).2, (r 22 (by decide) (by decide)).2, (r 23 (by decide) (by decide)).1]
  exact h n hn
theorem rd_lis.ag {m : Nat} {A : st_A} {σ σ' : en_S} {F : Nat → Nat → Prop} {V : Nat → Prop} (h : rd_lis m A σ) (g : ag σ σ' F V) (hx : m + 42 ≤ en_nx σ) (hV : ∀ j, 9 ≤ j → j ≤ 13 → V (m + j)) : rd_lis m A σ' := by
  have r : ∀ j, 9 ≤ j → j ≤ 13 → en_ai σ' (m + j) = en_ai σ (m + j) := fun j h1 h2 => ((g.2 _ (by omega)).2.2.2 (hV j h1 h2)).1
  unfold rd_lis
  rw [r 9 (by decide) (by decide), r 10 (by decide) (by decide), r 11 (by decide) (by decide), r 12 (by decide) (by decide), r 13 (by decide) (by decide)]
  exact h
theorem rd_scr.ag {m : Nat} {A : st_A} {σ σ' : en_S} {F : Nat → Nat → Prop} {V : Nat → Prop} (h : rd_scr m A σ) (g : ag σ σ' F V) (hx : m + 42 ≤ en_nx σ) (hV : ∀ j, 14 ≤ j → j ≤ 16 → V (m + j)) : rd_scr m A σ' := by
  have r : ∀ j, 14 ≤ j → j ≤ 16 → en_ai σ' (m + j) = en_ai σ (m + j) := fun j h1 h2 => ((g.2 _ (by omega)).2.2.2 (hV j h1 h2)).1
  unfold rd_scr
  rw [r 14 (by decide) (by decide), r 15 (by decide) (by decide), r 16 (by decide) (by decide)]
  exact h
theorem rd_log.ag {m : Nat} {A : st_A} {σ σ' : en_S} {F : Nat → Nat → Prop} {V : Nat → Prop} (h : rd_log m A σ) (g : ag σ σ' F V) (hx : m + 42 ≤ en_nx σ) (hF : F 732 m) (hV : V (m + 26)) : rd_log m A σ' := by
  unfold rd_log
  rw [((g.2 _ (by omega)).2.2.2 hV).1, ((g.2 m (by omega)).2.2.1 732 hF).1]
  exact h
theorem rd_obj.ag {m : Nat} {A : st_A} {σ σ' : en_S} {F : Nat → Nat → Prop} {V : Nat → Prop} (h : rd_obj m A σ) (g : ag σ σ' F V) (hx : m + 42 ≤ en_nx σ) (hF : F 701 m ∧ F 710 m ∧ F 734 m) : rd_obj m A σ' := by
  unfold rd_obj
  have r := (g.2 m (by omega)).2.2.1
  rw [(r 701 hF.1).1, (r 710 hF.2.1).1, (r 734 hF.2.2).1]
  exact h
/-- the fields and arrays that RX reads -/
def rxF (f a : Nat) : Prop := f ≠ 700 ∧ f ≠ 727 ∧ f ≠ 729 ∧ f ≠ 730 ∧ f ≠ 731 ∧ f ≠ 735 ∧ f ≠ 736 ∧ f ≠ 752
def rxV (m a : Nat) : Prop := m < a ∧ a ≤ m + 26 ∧ a ≠ m + 24 ∧ a ≠ m + 25
theorem RX.ag {m : Nat} {A : st_A} {σ σ' : en_S} (h : RX m A σ) (g : ag σ σ' rxF (rxV m)) (hf : fresh σ') : RX m A σ' := by
  obtain ⟨c, h1, h2, h3, h4, h5, h6, h7, h8, w⟩ := h
  have x := rs_nx c
  refine ⟨c.ag g hf (fun f hf => by unfold rxF; omega), h1.ag g x ?_, h2.ag g x ?_, h3.ag g x ?_, h4.ag g x ?_, h5.ag g x ?_, h6.ag g x ?_, h7.ag g x ?_ ?_, h8.ag g x ?_, w⟩
  all_goals first
    | (intro j a b; unfold rxV; omega)
    | (unfold rxV; omega)
    | (unfold rxF; omega)
    | (refine ⟨?_, ?_, ?_, ?_, ?_, ?_, ?_⟩ <;> (unfold rxV; omega))
    | (refine ⟨?_, ?_, ?_⟩ <;> (first | (unfold rxV; omega) | (unfold rxF; omega)))
theorem st_num_some (n : Nat) : st_num (some n) = nI n := rfl
theorem st_num_none : st_num none = -1 := rfl
theorem st_num_neg {o : Option Nat} (h : ∀ n, o = some n → n < 2 ^ 31) : (st_num o < 0) ↔ o = none := by
  cases o with
  | none => exact ⟨fun _ => rfl, fun _ => by decide⟩
  | some n =>
    refine ⟨fun z => absurd z (nI_pos (h n rfl)), fun z => by cases z⟩
