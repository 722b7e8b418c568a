/** Promises 24 to 28: THE TAPE, read(), WHY and the TEXT that is told. */
final class TextsTest {
    private final Check check;

    private TextsTest(Check check) {
        this.check = check;
    }

    static void run(Check check) {
        TextsTest test = new TextsTest(check);
        test.feed();
        test.wipe();
        test.read();
        test.readOfWrongForm();
        test.readOfWhatCannotBe();
        test.readEmptiesTheTape();
        test.readOfAllShortTexts();
        test.why();
        test.whyStays();
        test.spell();
    }

    static void feed(MarkedCurves x, String text) {
        for (int i = 0; i < text.length(); i++) {
            x.feed(text.charAt(i), 1);
        }
    }

    private static int read(MarkedCurves x, String text) {
        x.wipe();
        feed(x, text);
        return x.read();
    }

    private void feed() {
        check.promise(24);
        MarkedCurves x = new MarkedCurves();
        for (int n : new int[] {0, 5, -1, Integer.MIN_VALUE, Integer.MAX_VALUE}) {
            check.due("feed of " + n, x.feed(0, n), -1);
        }
        check.due("feed of four", x.feed(0x313a322c, 4), 4);
        check.due("feed of one, the lowest", x.feed(0x39393933, 1), 5);
        check.due("read() of 1:2,3", x.read(), 2);
        check.due("of(1)", x.of(1), 3);
        for (int i = 1; i <= 14; i++) {
            check.due("feed", x.feed(-1, 4), 4 * i);
        }
        check.due("feed of two", x.feed(0, 2), 58);
        check.due("feed of three, too many", x.feed(0, 3), -3);
        check.due("feed of five, not told", x.feed(0, 5), -1);
        check.due("count(6)", x.count(6), 58);
        check.due("feed of two", x.feed(0, 2), 60);
        check.due("feed of one, too many", x.feed(0, 1), -3);
        check.due("count(6)", x.count(6), 60);
    }

    private void wipe() {
        check.promise(25);
        MarkedCurves x = new MarkedCurves();
        check.due("wipe() of none", x.wipe(), 0);
        x.feed(0x393939, 3);
        check.due("wipe()", x.wipe(), 3);
        check.due("count(6)", x.count(6), 0);
        check.due("wipe()", x.wipe(), 0);
        feed(x, "1:1");
        check.due("read() of what came behind", x.read(), 1);
    }

    private void read() {
        check.promise(26);
        MarkedCurves x = TreesTest.with(5, 6);
        x.mark(7);
        check.due("read() of 2:", read(x, "2:"), 0);
        check.holds("THE TREE stays without a /", DeedsTest.textOf(x).equals("2:/5;12"));
        check.due("read()", read(x, "1:0,12,3,00,09/6;12;34;1234"), 5);
        check.holds("a TEXT", DeedsTest.textOf(x).equals("1:0,12,3,0,9/6;12;34;1234"));
        check.due("read() of no SPLITS", read(x, "0:1/3"), 1);
        check.holds("a TEXT of three LEAVES", DeedsTest.textOf(x).equals("0:1/3"));
        check.due("read()", read(x, "0:1,2,3,4,5,6,7,8/6;45;35"), -2023);
        check.due("read()", read(x, "0:1,2,3,4,5,6,7,8/6;45;345"), 8);
        check.due("count(1)", x.count(1), 8);
        check.due("count(3)", x.count(3), 2);
        check.due("read() of a /", read(x, "0:/4;23"), 0);
        check.due("splitAt(0)", x.splitAt(0), 12);
    }

    private void readOfWrongForm() {
        check.promise(26);
        String[] texts = {
            "", "x", ":", "0", "0x", "00:", "0:x", "0:,", "0:1,", "0:1,,", "0:1,/4", "0:012",
            "0:123", "0:1 ", "0:1,2,3,4,5,6,7,8,", "0:1,2,3,4,5,6,7,8,9", "0:/", "0:/x", "0:/44",
            "0:/4;", "0:/4;1", "0:/4;1;", "0:/4;11", "0:/4;21", "0:/4;12,", "0:/6;123;12;4",
            "0:/6;12345", "0:/6;012345", "0:/6;12;34;1234;", "0:/6;12;34;1234;56", "0:/4/4",
            "0:/4;12/", "0:;12", "0:1;12", "0,1", "0:/4 ", "0:-1", "0:/6;132"
        };
        int[] places = {
            0, 0, 0, 1, 1, 1, 2, 2, 4, 4, 4, 4,
            4, 3, 17, 17, 3, 3, 4,
            5, 6, 6, 6, 6, 7, 13,
            9, 9, 15, 15, 4,
            7, 2, 3, 1, 4, 2, 7
        };
        for (int i = 0; i < texts.length; i++) {
            MarkedCurves x = new MarkedCurves();
            check.due("read() of " + texts[i], read(x, texts[i]), -1000 - places[i]);
        }
        MarkedCurves x = new MarkedCurves();
        x.feed(-1, 1);
        check.due("read() of a byte 255", x.read(), -1000);
        x.feed(0x303a8031, 4);
        check.due("read() of a byte 128", x.read(), -1002);
        // Form is looked at ahead of what can't be.
        check.due("read() of 9:1x", read(x, "9:1x"), -1003);
        check.due("read() of 9:99/9;09;", read(x, "9:99/9;09;"), -1010);
    }

    private void readOfWhatCannotBe() {
        check.promise(26);
        String[] texts = {
            "3:1", "9:99/9", "0:13", "0:1,13", "0:12,1,99,98", "0:/2", "0:/7", "0:/9;12",
            "0:13/2", "0:/4;01", "0:/4;14", "0:/4;123", "0:/4;12;12", "0:/4;12;13", "0:/3;12",
            "0:/6;12;23", "0:/6;12;34;45", "0:/6;012", "0:/6;6789", "0:/5;1234", "0:/6;12;1234;36"
        };
        int[] places = {
            0, 0, 2, 4, 7, 3, 3, 3,
            2, 5, 5, 5, 8, 8, 5,
            8, 11, 5, 5, 5, 13
        };
        for (int i = 0; i < texts.length; i++) {
            MarkedCurves x = TreesTest.with(6, 6);
            x.mark(4);
            int answer = read(x, texts[i]);
            check.due("read() of " + texts[i], answer, -2000 - places[i]);
            check.holds("all is as it was", DeedsTest.textOf(x).equals("0:4/6;12"));
        }
    }

    private void readEmptiesTheTape() {
        check.promise(26);
        MarkedCurves x = new MarkedCurves();
        read(x, "0:1");
        check.due("count(6), read", x.count(6), 0);
        read(x, "0:1x");
        check.due("count(6), WRONG by form", x.count(6), 0);
        read(x, "0:13");
        check.due("count(6), can't be", x.count(6), 0);
        check.due("read() of none", x.read(), -1000);
        x.undo();
        check.due("count(6), UNDONE", x.count(6), 0);
    }

    /** All texts of up to six bytes of some signs, ahead of which a TEXT stands. */
    private void readOfAllShortTexts() {
        for (String ahead : new String[] {"", "0:1,2/6", "0:1,12,3,4,5,6,", "2:1/5;1", "1:/6;34;5"}) {
            readOfAll(ahead, ahead.isEmpty() ? 6 : 4);
        }
    }

    private void readOfAll(String ahead, int more) {
        String signs = "0124:,/;";
        MarkedCurves x = new MarkedCurves();
        Model model = new Model();
        for (int length = 0; length <= more; length++) {
            int all = (int) Math.round(Math.pow(signs.length(), length));
            for (int number = 0; number < all; number++) {
                StringBuilder text = new StringBuilder(ahead);
                int left = number;
                for (int i = 0; i < length; i++) {
                    text.append(signs.charAt(left % signs.length()));
                    left /= signs.length();
                }
                readAsTheModel(x, model, text.toString());
            }
        }
    }

    private void readAsTheModel(MarkedCurves x, Model model, String text) {
        feed(x, text);
        for (int i = 0; i < text.length(); i++) {
            model.feed(text.charAt(i), 1);
        }
        check.promise(26);
        check.due("read() of " + text, x.read(), model.read());
        check.promise(27);
        check.due("why(1, 0) of " + text, x.why(1, 0), model.why(1, 0));
        check.due("why(1, 1) of " + text, x.why(1, 1), model.why(1, 1));
    }

    private void whyIs(MarkedCurves x, int... causes) {
        for (int i = 0; i < 6; i++) {
            check.due("why(" + i / 2 + ", " + i % 2 + ")", x.why(i / 2, i % 2), causes[i]);
        }
    }

    private void why() {
        check.promise(27);
        String[] texts = {
            "", "3:", "x", "0", "0/4", "0:", "0:1,2,13", "0:1,2,x/4", "0:1,2,", "0:1,2/", "0:1,2/x",
            "0:1,2/7;12", "0:1,2/44", "0:1,2/6;12;13;45", "0:/6;12;3", "0:/6;12;34;1234;", "0:13/;"
        };
        int[][] causes = {
            {1, 0, 2, 0, 6, 0}, {1, 2, 2, 0, 7, 0}, {1, 1, 2, 0, 6, 0}, {1, 1, 3, 0, 6, 1},
            {1, 3, 3, 0, 6, 1}, null, {1, 8, 3, 2, 7, 6}, {1, 9, 3, 2, 6, 6}, {1, 6, 3, 2, 6, 6},
            {1, 6, 4, 0, 6, 6}, {1, 7, 4, 0, 6, 6}, {1, 10, 4, 0, 7, 6}, {1, 8, 5, 0, 6, 7},
            {1, 16, 5, 2, 7, 11}, {1, 9, 5, 2, 6, 9}, {1, 16, 5, 3, 6, 15}, {1, 6, 4, 0, 6, 5}
        };
        for (int i = 0; i < texts.length; i++) {
            MarkedCurves x = new MarkedCurves();
            read(x, texts[i]);
            if (causes[i] == null) {
                check.due("why(0, 0) of a TEXT", x.why(0, 0), -2);
            } else {
                whyIs(x, causes[i]);
            }
        }
    }

    private void whyStays() {
        check.promise(27);
        MarkedCurves x = new MarkedCurves();
        int[][] wrong = {{-1, 0}, {3, 0}, {0, -1}, {0, 2}, {Integer.MIN_VALUE, Integer.MAX_VALUE}};
        for (int[] w : wrong) {
            check.due("why of what is not told, none refused", x.why(w[0], w[1]), -1);
        }
        check.due("why(2, 1)", x.why(2, 1), -2);
        read(x, "0:1,x");
        whyIs(x, 1, 5, 3, 1, 6, 4);
        for (int[] w : wrong) {
            check.due("why of what is not told", x.why(w[0], w[1]), -1);
        }
        read(x, "0:1,2");
        x.undo();
        x.wipe();
        x.image();
        x.restore();
        whyIs(x, 1, 5, 3, 1, 6, 4);
        read(x, "5:");
        whyIs(x, 1, 2, 2, 0, 7, 0);
    }

    private void spell() {
        check.promise(28);
        MarkedCurves x = new MarkedCurves();
        check.due("spell(-2)", x.spell(-2), -1);
        check.due("spell(min)", x.spell(Integer.MIN_VALUE), -1);
        check.due("spell(-1)", x.spell(-1), 4);
        check.due("spell(4)", x.spell(4), -2);
        check.due("spell(max)", x.spell(Integer.MAX_VALUE), -2);
        check.holds("0:/4", DeedsTest.textOf(x).equals("0:/4"));
        String longest = "2:10,11,12,10,11,12,10,11/6;1234;12;34";
        check.due("read()", read(x, longest), 8);
        check.holds("SPLITS rising",
            DeedsTest.textOf(x).equals("2:10,11,12,10,11,12,10,11/6;12;34;1234"));
        read(x, "1:0,1,9/6;2345;345;45");
        check.holds("SPLITS rising by their bits", DeedsTest.textOf(x).equals("1:0,1,9/6;45;345;2345"));
        x.leaves(3);
        check.holds("1:0,1,9/3", DeedsTest.textOf(x).equals("1:0,1,9/3"));
    }
}
