/** What two belts that are the same have in common. */
final class Look {
    private Look() {
    }

    /** All that can be seen of the belt but the tape and how many ACTS are kept, as one text. */
    static String of(MergeBelts x) {
        StringBuilder s = new StringBuilder();
        for (int what = 0; what < 16; what++) {
            s.append(what == 13 || what == 14 ? 0 : x.count(what)).append(' ');
        }
        for (int p = 0; p < x.count(0); p++) {
            for (int what = 0; what < 5; what++) {
                s.append(x.place(p, what)).append(' ');
            }
        }
        for (int e = 0; e < x.count(1); e++) {
            for (int what = 0; what < 6; what++) {
                s.append(x.exit(e, what)).append(' ');
            }
        }
        for (int w = 0; w < x.count(2); w++) {
            for (int what = 0; what < 5; what++) {
                s.append(x.ware(w, what)).append(' ');
            }
        }
        for (int k = 0; k < x.count(3); k++) {
            for (int what = 0; what < 14; what++) {
                s.append(x.side(k, what)).append(' ');
            }
            for (int i = 0; i < x.side(k, 4); i++) {
                s.append(x.waiting(k, i)).append(' ');
            }
        }
        for (int c = 0; c < x.count(4); c++) {
            s.append(x.coming(c, 4)).append(' ');
        }
        for (int ago = 0; ago < x.count(12); ago++) {
            for (int what = 0; what < 7; what++) {
                s.append(x.log(ago, what)).append(' ');
            }
        }
        return s.append(x.again(0)).append(' ').append(x.again(1)).append(' ').append(x.trial(50, 0)).toString();
    }
}
