/** The boundaries that the document names of THE TAPE and TEXTS (promises 24 to 28). */
final class TextsEdges extends Edges {
    private static final String EIGHT = "0:1,2,3,4,5,6,7,8";

    private TextsEdges(Check check, Boundaries boundaries) {
        super(check, boundaries);
    }

    static void run(Check check, Boundaries boundaries) {
        TextsEdges test = new TextsEdges(check, boundaries);
        test.feed();
        test.feedOfTooMany();
        test.wipe();
        test.genusOfAText();
        test.marksOfAText();
        test.leavesOfAText();
        test.splitsOfAText();
        test.figures();
        test.endTooEarly();
        test.formAhead();
        test.whatCannotBe();
        test.splitThatCannotBe();
        test.firstOfSeveral();
        test.withoutASlash();
        test.emptyThen();
        test.why();
        test.layerOne();
        test.whyStays();
        test.spell();
    }

    private void feed() {
        boundaries.promise(24, "The n (1 .. 4) lowest bytes of v come behind THE TAPE's, the "
            + "highest of these first");
        MarkedCurves x = new MarkedCurves();
        check.due("feed of one, the fewest", x.feed(0x11223332, 1), 1);
        check.due("feed of two", x.feed(0x11223a31, 2), 3);
        check.due("read() of 2:1", x.read(), 1);
        check.due("feed of four, the most", x.feed(0x323a312c, 4), 4);
        check.due("feed of three", x.feed(0x11352c36, 3), 7);
        check.due("read() of 2:1,5,6", x.read(), 3);
        isAs(x, "2:1,5,6/4");
        boundaries.promise(24, "BAD: n;");
        x.feed(0x30, 1);
        check.due("feed of 0", x.feed(0x31, 0), -1);
        check.due("feed of 5", x.feed(0x31, 5), -1);
        check.due("feed of -1", x.feed(0x31, -1), -1);
        for (int n : FAR) {
            check.due("feed of " + n, x.feed(0x31, n), -1);
        }
        check.due("count(6)", x.count(6), 1);
        // A byte with the highest bit is none that is below 0, nor a figure.
        MarkedCurves high = new MarkedCurves();
        check.due("feed(min, 4)", high.feed(Integer.MIN_VALUE, 4), 4);
        check.due("read()", high.read(), -1000);
        check.due("feed(-1, 1)", high.feed(-1, 1), 1);
        check.due("read()", high.read(), -1000);
        high.feed(0x30, 1);
        high.feed(0xba, 1);
        check.due("read() of 0 and : with a bit more", high.read(), -1001);
    }

    private void feedOfTooMany() {
        boundaries.promise(24, "FULL: there would be more than 60 (none comes).");
        for (int n = 1; n <= 4; n++) {
            MarkedCurves x = new MarkedCurves();
            for (int bytes = 0; bytes + n <= 60; bytes += n) {
                check.due("feed of " + n, x.feed(0, n), bytes + n);
            }
            check.due("feed of " + n + ", too many", x.feed(0, n), -3);
            check.due("count(6)", x.count(6), 60);
        }
        for (int bytes = 57; bytes <= 60; bytes++) {
            for (int n = 1; n <= 4; n++) {
                MarkedCurves x = new MarkedCurves();
                feed(x, " ".repeat(bytes));
                int due = bytes + n <= 60 ? bytes + n : -3;
                check.due("feed of " + n + " behind " + bytes, x.feed(0, n), due);
                check.due("count(6)", x.count(6), Math.max(due, bytes));
            }
        }
        boundaries.terms(24, "THE TAPE: bytes, 60 at most.");
        MarkedCurves x = new MarkedCurves();
        feed(x, " ".repeat(60));
        check.due("feed of 5, FULL too", x.feed(0, 5), -1);
        check.due("read() of 60", x.read(), -1000);
        check.due("why(0, 1)", x.why(0, 1), 60);
        check.due("feed, there is room again", x.feed(0, 4), 4);
    }

    private void wipe() {
        boundaries.promise(25, "THE TAPE is empty: how many bytes it had.");
        MarkedCurves x = new MarkedCurves();
        check.due("wipe() of an empty one", x.wipe(), 0);
        x.feed(0x39, 1);
        check.due("wipe() of one byte", x.wipe(), 1);
        check.due("wipe() again", x.wipe(), 0);
        feed(x, " ".repeat(60));
        check.due("wipe() of a full one", x.wipe(), 60);
        check.due("count(6)", x.count(6), 0);
        check.due("read() of what comes then", read(x, "0:1"), 1);
        check.due("wipe() behind read()", x.wipe(), 0);
    }

    /** What read() answers of a TEXT on a desk that is otherwise in everything. */
    private void reads(String text, int due) {
        MarkedCurves x = desk("1:9,9,9,9,9/6;45");
        check.due("read() of " + text, read(x, text), due);
        if (due < 0) {
            isAs(x, "1:9,9,9,9,9/6;45");
        }
    }

    private void becomes(String text, String then) {
        MarkedCurves x = desk("1:9,9,9,9,9/6;45");
        int marks = read(x, text);
        isAs(x, then);
        check.due("read() of " + text, marks, x.count(1));
    }

    private void genusOfAText() {
        boundaries.terms(26, "GENUS (one figure), a :");
        becomes("0:", "0:/6;45");
        becomes("2:", "2:/6;45");
        reads(":", -1000);
        reads("a:", -1000);
        reads("00:", -1001);
        reads("0", -1001);
        reads("0;", -1001);
        boundaries.terms(26, "a GENUS above 2,");
        reads("2:1", 1);
        reads("3:1", -2000);
        reads("9:", -2000);
    }

    private void marksOfAText() {
        boundaries.terms(26, "MARKS (0 to 8) with , between, each 1 or 2 figures;");
        becomes("0:/4", "0:/4");
        becomes("0:7", "0:7/6;45");
        becomes(EIGHT, EIGHT + "/6;45");
        becomes("0:10,11,12,10,11,12,10,11", "0:10,11,12,10,11,12,10,11/6;45");
        reads(EIGHT + ",", -1017);
        reads(EIGHT + ",9", -1017);
        reads(EIGHT + "9", -2016);
        reads("0:1.2", -1003);
        reads("0:1;2", -1003);
        boundaries.terms(26, "In read(), MARKS can have 0 ahead, a third figure, a \",\" without "
            + "MARKS,");
        becomes("0:00,01,09", "0:0,1,9/6;45");
        reads("0:012", -1004);
        reads("0:000", -1004);
        reads("0:123", -1004);
        reads("0:1,2,100", -1008);
        reads("0:,", -1002);
        reads("0:,1", -1002);
        reads("0:1,,2", -1004);
        reads("0:1,", -1004);
        reads("0:1,/4", -1004);
        reads("0:/4,", -1004);
        boundaries.terms(26, "It tells GENUS, MARKS (0 .. 12 each), and, with a /, L and THE TREE");
        becomes("0:0,12", "0:0,12/6;45");
        reads("0:0,13", -2004);
        boundaries.terms(26, "a power above 12,");
        reads("0:12", 1);
        reads("0:13", -2002);
        reads("0:99,1", -2002);
        reads("0:1,2,3,4,5,6,7,13", -2016);
    }

    private void leavesOfAText() {
        boundaries.terms(26, "perhaps then a /, L (one figure)");
        becomes("0:1/3", "0:1/3");
        becomes("0:1/6", "0:1/6");
        reads("0:1/", -1004);
        reads("0:1/;", -1004);
        reads("0:1/a", -1004);
        reads("0:1/44", -1005);
        reads("0:1/4/", -1005);
        reads("0:1/4,", -1005);
        boundaries.terms(26, "an L that is not 3 .. 6,");
        for (int l = 0; l <= 9; l++) {
            reads("0:1/" + l, l >= 3 && l <= 6 ? 1 : -2004);
        }
        boundaries.terms(26, "an L that cannot be is told at L,");
        reads("0:/2;12", -2003);
        reads("0:/7;12;34", -2003);
        reads("0:/9;01", -2003);
    }

    private void splitsOfAText() {
        boundaries.terms(26, "and SPLITS (0 to 3), each with a ; ahead, as 2 to 4 figures, its "
            + "LEAVES, rising (that they rise is form, too).");
        becomes("0:/6;12", "0:/6;12");
        becomes("0:/6;1234", "0:/6;1234");
        becomes("0:/6;2345;345;45", "0:/6;45;345;2345");
        reads("0:/6;", -1005);
        reads("0:/6;;", -1005);
        reads("0:/6;12;", -1008);
        reads("0:/612", -1004);
        reads("0:/6;12,34", -1007);
        boundaries.terms(26, "and SPLITS that do not rise, of one or of five figures, or a "
            + "fourth SPLIT are WRONG by form where that is met;");
        reads("0:/6;21", -1006);
        reads("0:/6;11", -1006);
        reads("0:/6;121", -1007);
        reads("0:/6;122", -1007);
        reads("0:/6;1243", -1008);
        reads("0:/6;1233", -1008);
        reads("0:/6;1", -1006);
        reads("0:/6;1;23", -1006);
        reads("0:/6;12;3", -1009);
        // Nothing rises behind a 9; that is met at the byte behind it.
        reads("0:/6;9", -1006);
        reads("0:/6;91", -1006);
        reads("0:/6;99", -1006);
        reads("0:/6;19", -2005);
        reads("0:/6;191", -1007);
        reads("0:/6;12345", -1009);
        reads("0:/6;01234", -1009);
        reads("0:/6;12;34;1234;", -1015);
        reads("0:/6;12;34;1234;45", -1015);
    }

    private void figures() {
        boundaries.terms(26, "All figures 0 .. 9.");
        // The bytes just below 0 and just above 9: / and :.
        reads("/:", -1000);
        reads("::", -1000);
        reads("0:/:", -1003);
        reads("0:1:", -1003);
        reads("0:/6;1:", -1006);
        reads("0:/6;/1", -1005);
        becomes("0:09,00", "0:9,0/6;45");
        reads("9:0", -2000);
        reads("0:/6;09", -2005);
        reads("0:/6;6789", -2005);
    }

    private void endTooEarly() {
        boundaries.terms(26, "the place (from 0) of the first byte with which no such text goes "
            + "on (how many bytes there are, if it ends too early).");
        reads("", -1000);
        reads("0", -1001);
        reads("0:1,", -1004);
        reads("0:/", -1003);
        reads("0:/6;", -1005);
        reads("0:/6;1", -1006);
        reads("0:/6;12;34;1", -1012);
        reads("x", -1000);
        reads("0:1 ", -1003);
        reads("0:1/6;12 ", -1008);
        reads(EIGHT + "/6;12;34;1234" + " ".repeat(30), -1030);
        boundaries.promise(26, "-1000 less the place by form;");
        reads(" ".repeat(60), -1000);
        reads("2:10,11,12,10,11,12,10,11/6;1234;234;34 ", -1039);
    }

    private void formAhead() {
        boundaries.terms(26, "All of form is looked at first.");
        reads("9:x", -1002);
        reads("9:99/9;09;", -1010);
        reads("0:13x", -1004);
        reads("0:/2;12;1", -1009);
        boundaries.terms(26, "form is looked at ahead of what cannot be,");
        reads("3", -1001);
        reads("3:13,", -1005);
        reads("0:/7;", -1005);
        reads("0:/6;12;12;", -1011);
        reads("0:/6;06789", -1009);
    }

    private void whatCannotBe() {
        boundaries.promise(26, "-2000 less the place of the first of the figures that tell what "
            + "can't be.");
        reads("3:", -2000);
        reads("0:1,13,2", -2004);
        reads("0:13", -2002);
        reads("0:1/7", -2004);
        reads("0:1/6;12;23", -2009);
        boundaries.terms(26, "Else, as told from the left on, the first figure or figures that "
            + "tell what can't be:");
        reads("3:13/7;01", -2000);
        reads("2:13/7;01", -2002);
        reads("2:12,99,98/7;01", -2005);
        reads("2:12/7;01", -2005);
        reads("2:12/6;01;02", -2007);
        reads("2:12/6;12;02", -2010);
    }

    private void splitThatCannotBe() {
        boundaries.terms(26, "a SPLIT that is none, is there already, or does not GO TOGETHER "
            + "with those ahead of it.");
        reads("0:/3;12", -2005);
        reads("0:/4;14", -2005);
        reads("0:/4;123", -2005);
        reads("0:/5;1234", -2005);
        reads("0:/6;01", -2005);
        reads("0:/6;16", -2005);
        reads("0:/6;12;12", -2008);
        reads("0:/6;12;34;12", -2011);
        reads("0:/6;12;23", -2008);
        reads("0:/6;12;123;34", -2012);
        reads("0:/6;12;34;123", -2011);
        becomes("0:/4;23", "0:/4;23");
        becomes("0:/5;234;34", "0:/5;34;234");
        boundaries.terms(26, "a SPLIT that is none at its first figure.");
        reads("0:/6;1239", -2005);
        reads("0:/6;12;36", -2008);
        // One that is none there is none that others must go together with.
        reads("0:/6;01;12", -2005);
    }

    private void firstOfSeveral() {
        boundaries.terms(27, "its number that place (from 0; of several figures that of the "
            + "first).");
        MarkedCurves x = new MarkedCurves();
        check.due("read()", read(x, "0:1,13"), -2004);
        check.due("why(2, 1)", x.why(2, 1), 4);
        check.due("read()", read(x, "0:1,2/6;12;1236"), -2011);
        check.due("why(2, 1)", x.why(2, 1), 11);
        check.due("read()", read(x, "9:"), -2000);
        check.due("why(2, 1), the place 0", x.why(2, 1), 0);
    }

    private void withoutASlash() {
        boundaries.terms(26, "(which stay without)");
        becomes("0:", "0:/6;45");
        becomes("2:1,2", "2:1,2/6;45");
        becomes("2:1,2/6", "2:1,2/6");
        becomes("2:1,2/3", "2:1,2/3");
        // What stays is what is there, not what an earlier TEXT told.
        MarkedCurves x = desk("1:9/6;45");
        x.leaves(5);
        x.split(24);
        check.due("read()", read(x, "0:1,2"), 2);
        isAs(x, "0:1,2/5;34");
        check.due("read() that is refused", read(x, "2:1,2/4;12;3"), -1012);
        check.due("read()", read(x, "0:3"), 1);
        isAs(x, "0:3/5;34");
    }

    private void emptyThen() {
        boundaries.promise(26, "THE TAPE, which is empty then (where it is WRONG, too), is a "
            + "TEXT, and all is so");
        MarkedCurves x = new MarkedCurves();
        int[] dues = {1, -1003, -2002, -1000};
        String[] texts = {"0:1", "0:1x", "0:13", ""};
        for (int i = 0; i < texts.length; i++) {
            check.due("read() of " + texts[i], read(x, texts[i]), dues[i]);
            check.due("count(6)", x.count(6), 0);
            check.due("wipe()", x.wipe(), 0);
        }
        check.due("read() once more", x.read(), -1000);
        check.due("read() of a TEXT behind", read(x, "1:2,3"), 2);
    }

    private void whyIs(String text, int... causes) {
        MarkedCurves x = new MarkedCurves();
        int answer = read(x, text);
        check.due("read() of " + text, answer, (causes[4] == 6 ? -1000 : -2000) - causes[5]);
        for (int i = 0; i < 6; i++) {
            check.due("why(" + i / 2 + ", " + i % 2 + ") of " + text, x.why(i / 2, i % 2), causes[i]);
        }
    }

    private void why() {
        boundaries.promise(27, "Of LAYER i (0 .. 2) of WHY its sort (what 0), its number (1).");
        whyIs("0:1,x", 1, 5, 3, 1, 6, 4);
        boundaries.promise(27, "BAD; NOT: no read() was refused.");
        MarkedCurves none = new MarkedCurves();
        MarkedCurves some = desk("9:");
        for (int i = -3; i <= 5; i++) {
            for (int what = -3; what <= 4; what++) {
                boolean told = i >= 0 && i <= 2 && what >= 0 && what <= 1;
                check.due("why(" + i + ", " + what + ") of none", none.why(i, what), told ? -2 : -1);
                if (!told) {
                    check.due("why(" + i + ", " + what + ")", some.why(i, what), -1);
                }
            }
        }
        for (int far : FAR) {
            check.due("why(" + far + ", 0)", some.why(far, 0), -1);
            check.due("why(0, " + far + ")", some.why(0, far), -1);
            check.due("why(" + far + ", 0) of none", none.why(far, 0), -1);
        }
        boundaries.terms(27, "(none at first) its LAYERS");
        check.due("why(0, 0) of none", none.why(0, 0), -2);
        read(none, "0:1/4");
        check.due("why(0, 0), no read() was refused", none.why(0, 0), -2);
    }

    private void layerOne() {
        boundaries.terms(27, "its number how many bytes it had;");
        whyIs("", 1, 0, 2, 0, 6, 0);
        whyIs(" ".repeat(60), 1, 60, 2, 0, 6, 0);
        boundaries.terms(27, "sort 2 GENUS: the first byte; 3 MARKS: from the byte behind it on, "
            + "till a / has come; 4 L: the byte behind the /; 5 SPLITS: from the byte behind "
            + "that on;");
        whyIs("/", 1, 1, 2, 0, 6, 0);
        whyIs("3:1", 1, 3, 2, 0, 7, 0);
        whyIs("0", 1, 1, 3, 0, 6, 1);
        whyIs("0/4", 1, 3, 3, 0, 6, 1);
        whyIs("0:x", 1, 3, 3, 0, 6, 2);
        whyIs("0:/", 1, 3, 4, 0, 6, 3);
        whyIs("0:/x", 1, 4, 4, 0, 6, 3);
        whyIs("0:/7;12", 1, 7, 4, 0, 7, 3);
        whyIs("0:/4x", 1, 5, 5, 0, 6, 4);
        whyIs("0:/44", 1, 5, 5, 0, 6, 4);
        whyIs("0:/4/4", 1, 6, 5, 0, 6, 4);
        boundaries.terms(27, "WHY has LAYER 1 from the byte behind the first on up to a /,");
        whyIs("0:1,/4", 1, 6, 3, 1, 6, 4);
        whyIs("0:13/4", 1, 6, 3, 0, 7, 2);
        boundaries.terms(27, "how many , (in MARKS), how many ; (in SPLITS) there were ahead of "
            + "that place, 0 in GENUS and L;");
        whyIs("0:1,2,3,4,5,6,7,8,", 1, 18, 3, 7, 6, 17);
        whyIs("0:1,2,13", 1, 8, 3, 2, 7, 6);
        whyIs("0:13,2", 1, 6, 3, 0, 7, 2);
        whyIs("0:1,2/7", 1, 7, 4, 0, 7, 6);
        whyIs("0:1,2/6,", 1, 8, 5, 0, 6, 7);
        whyIs("0:/6;12;12", 1, 10, 5, 2, 7, 8);
        whyIs("0:/6;12;34;1234;", 1, 16, 5, 3, 6, 15);
        whyIs("0:/6;", 1, 5, 5, 1, 6, 5);
        whyIs("0;", 1, 2, 3, 0, 6, 1);
    }

    private void whyStays() {
        boundaries.terms(27, "WHY tells of the latest read() that was refused");
        MarkedCurves x = desk("0:1,x");
        check.due("why(2, 1)", x.why(2, 1), 4);
        read(x, "9:");
        check.due("why(2, 0) of the latest", x.why(2, 0), 7);
        check.due("why(2, 1) of the latest", x.why(2, 1), 0);
        check.due("why(0, 1) of the latest", x.why(0, 1), 2);
        boundaries.terms(27, "stays as of the latest refused read().");
        read(x, "0:1,2,3/5");
        x.feed(0, 4);
        x.wipe();
        x.undo();
        x.again();
        x.image();
        x.restore();
        check.due("why(2, 0)", x.why(2, 0), 7);
        check.due("why(0, 1)", x.why(0, 1), 2);
    }

    private void spell() {
        boundaries.promise(28, "(i -1: how many). BAD: i below -1; NOT: there are not as many.");
        MarkedCurves x = new MarkedCurves();
        check.due("spell(-1) of the shortest", x.spell(-1), 4);
        check.due("spell(0), the first", x.spell(0), '0');
        check.due("spell(3), the last", x.spell(3), '4');
        check.due("spell(4)", x.spell(4), -2);
        check.due("spell(-2)", x.spell(-2), -1);
        for (int i : FAR) {
            check.due("spell(" + i + ")", x.spell(i), i < 0 ? -1 : -2);
        }
        String longest = "2:10,11,12,10,11,12,10,12/6;45;345;2345";
        MarkedCurves full = desk(longest);
        check.due("spell(-1) of the longest", full.spell(-1), longest.length());
        isAs(full, longest);
        check.due("spell behind the last", full.spell(longest.length()), -2);
        boundaries.terms(28, "The / with L is always told.");
        isAs(desk("2:"), "2:/4");
        isAs(desk("2:9,10/3"), "2:9,10/3");
    }
}
