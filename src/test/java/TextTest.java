/** Promises 1 to 4: the tape, the town's text and its faults. */
public final class TextTest {
    public static void main(String[] args) {
        aNewObject();
        theTape();
        goodTexts();
        faultsOneAndTwo();
        faultsThreeAndFour();
        aFaultChangesNothing();
        laterOnesStrike();
        Check.end("TextTest");
    }

    private static void aNewObject() {
        TillTheBell x = new TillTheBell();
        int[] due = {0, 0, 0, 0, 0, 0, 50, 720, 0, 0, 0, 0};
        for (int what = 0; what < due.length; what++) {
            Check.is("new: count " + what, x.count(what), due[what]);
        }
        Check.is("new: fault(0)", x.fault(0), 0);
        Check.is("new: fault(1)", x.fault(1), -1);
        for (int t = 0; t < 4; t++) {
            int tray = t;
            Check.throwsA(IllegalStateException.class, "new: tray " + t, () -> x.write(tray, 0, 1));
        }
        Check.throwsA(java.util.NoSuchElementException.class, "new: nobody", () -> x.person(0, 0));
        Check.throwsA(java.util.NoSuchElementException.class, "new: no thing", () -> x.holder(0));
        Check.throwsA(java.util.NoSuchElementException.class, "new: no deed", () -> x.deed(0, 0));
    }

    private static void theTape() {
        TillTheBell x = new TillTheBell();
        for (int i = 1; i <= 45; i++) {
            Check.is("feed " + i, x.feed(0x20202020, 0x0a202020, 0x20202020, 0x20202020, 0x2020200a), 20 * i);
        }
        Check.is("feed beyond 900", x.feed(0, 0, 0, 0, 0), -1);
        Check.is("bytes", x.count(11), 900);
        Check.throwsA(IllegalArgumentException.class, "town(901)", () -> x.town(901));
        Check.throwsA(IllegalArgumentException.class, "town(-1)", () -> x.town(-1));
        Check.is("bytes behind throws", x.count(11), 900);
        Check.is("town of 900 blanks", x.town(900), 0);
        Check.is("bytes then", x.count(11), 0);
        // the highest byte of each int first: "peop" "le 2" ";   "
        Check.is("feed", x.feed(0x70656f70, 0x6c652032, 0x3b202020, 0x41424344, 0x45464748), 20);
        Check.is("town(9)", x.town(9), 1);
        Check.is("the rest of the tape is gone", x.count(11), 0);
        Check.is("people", x.count(1), 2);
    }

    private static void good(String text, int lines) {
        TillTheBell x = new TillTheBell();
        Check.is("town of " + text, Check.tell(x, text), lines);
        Check.is("fault of " + text, x.fault(0), 0);
        Check.is("place of " + text, x.fault(1), -1);
        Check.is("lines of " + text, x.count(0), lines);
    }

    private static void goodTexts() {
        good("", 0);
        good(" \n ", 0);
        good("people 1;", 1);
        good("people6;", 1);
        good("\n\npeople\n 6 \n;", 1);
        good("people 0006;", 1);
        good("people 2;coins0 9999;coins 1 0;", 3);
        good("people 2;thing 1;thing 0 999;thing 0 0 999;worth 2 1 0;eaten 0;eaten 0;", 7);
        good("people 6;thing 5 1 2 3 4 5 6;share 0;share 100;bell 1;bell 999;", 6);
        StringBuilder ten = new StringBuilder("people 1;");
        for (int i = 0; i < 10; i++) {
            ten.append("thing 0;");
        }
        good(ten.toString(), 11);
    }

    private static void bad(String text, int kind, int place) {
        TillTheBell x = new TillTheBell();
        Check.is("town of " + text, Check.tell(x, text), -10 - kind);
        Check.is("fault of " + text, x.fault(0), kind);
        Check.is("place of " + text, x.fault(1), place);
        Check.is("fault(2)", x.fault(2), -1);
        Check.is("fault(-1)", x.fault(-1), -1);
        Check.is("people of " + text, x.count(1), 0);
    }

    private static void faultsOneAndTwo() {
        bad("People 1;", 1, 0);
        bad("people 1;Coins", 1, 9);
        bad("people -1;", 1, 7);
        bad("people 1,", 1, 8);
        bad("people\t1;", 1, 6);
        bad("people\r1;", 1, 6);
        bad("people 1;\u0000", 1, 9);
        bad("people 1;  \u00ff", 1, 11);
        bad("people 12345;", 1, 7);
        bad("people 00001;", 1, 7);
        bad("12345", 1, 0);
        bad("people 1;coins 0 123456;", 1, 17);
        bad("people 2;thing 0 1 2 10000;", 1, 21);
        bad("people 1 12345;", 1, 9);
        bad("1234", 2, 0);
        bad(";", 2, 0);
        bad("foo 1;", 2, 0);
        bad("peoples 2;", 2, 0);
        bad("peop le 2;", 2, 0);
        bad("coins 0 5;people 1;", 2, 0);
        bad("share 5;", 2, 0);
        bad("people", 2, 6);
        bad("people;", 2, 6);
        bad("people 1", 2, 8);
        bad("people 1  \n", 2, 11);
        bad("people 1 2;", 2, 9);
        bad("people one;", 2, 7);
        bad("people 1;;", 2, 9);
        bad("people 2;thing;", 2, 14);
        bad("people 2;thing 0 x;", 2, 17);
        bad("people 2;coins 0;", 2, 16);
        bad("people 2;coins 0 1 2;", 2, 19);
        bad("people 2;thing 0;worth 0 0;", 2, 26);
        bad("people 2;share 5 6;", 2, 17);
        bad("people 2;bell 5 coins", 2, 16);
        bad("people 2;thing 0;eaten;", 2, 22);
    }

    private static void faultsThreeAndFour() {
        bad("people 0;", 3, 7);
        bad("people 7;", 3, 7);
        bad("people 7 x", 3, 7);
        bad("people 2;coins 2 5;", 3, 15);
        bad("people 2;thing 2;", 3, 15);
        bad("people 2;thing 0 1000;", 3, 17);
        bad("people 2;thing 0 1 2 1000;", 3, 21);
        bad("people 1;worth 0 0 5;", 3, 15);
        bad("people 1;thing 0;worth 1 0 5;", 3, 23);
        bad("people 1;thing 0;worth 0 1 5;", 3, 25);
        bad("people 1;thing 0;worth 0 0 1000;", 3, 27);
        bad("people 1;share 101;", 3, 15);
        bad("people 1;bell 0;", 3, 14);
        bad("people 1;bell 1000;", 3, 14);
        bad("people 1;eaten 0;thing 0;", 3, 15);
        bad("people 2;people 2;", 4, 9);
        bad("people 2;coins 0 1;people x", 4, 19);
        bad("people 2;thing 0 1 2 3;", 4, 21);
        bad("people 2;thing 0 1 2 3 4;", 4, 21);
        bad("people 6;thing 0 1 2 3 4 5 6 999;", 4, 29);
        StringBuilder eleven = new StringBuilder("people 1;");
        for (int i = 0; i < 10; i++) {
            eleven.append("thing 0;");
        }
        int place = eleven.length();
        bad(eleven + "thing 9;", 4, place);
        bad(eleven + "thing", 4, place);
    }

    private static void aFaultChangesNothing() {
        TillTheBell x = Check.of("people 2;coins 0 7;thing 1 3 4;share 9;bell 99;");
        x.sell(0, 0, 5);
        x.pass(3);
        Check.is("a bad text", Check.tell(x, "people 3;coins 0 8;thing 2;bell 5;eaten 1;"), -13);
        int[] due = {5, 2, 1, 1, 1, 3, 9, 99, 0, 7, 10, 0};
        for (int what = 0; what < due.length; what++) {
            Check.is("all stays: count " + what, x.count(what), due[what]);
        }
        Check.throwsA(IllegalArgumentException.class, "town(1) of an empty tape", () -> x.town(1));
        Check.is("the fault of the latest that threw nothing", x.fault(0), 3);
        Check.is("its place", x.fault(1), 40);
        Check.is("a good text", Check.tell(x, "people 3;"), 1);
        Check.is("no fault", x.fault(0), 0);
        Check.is("no place", x.fault(1), -1);
        int[] fresh = {1, 3, 0, 0, 0, 0, 50, 720, 0, 0, 0, 0};
        for (int what = 0; what < fresh.length; what++) {
            Check.is("a new town: count " + what, x.count(what), fresh[what]);
        }
        Check.is("nothing of the old town", x.person(0, 0), 0);
        Check.is("no text", x.town(0), 0);
        Check.is("nobody", x.count(1), 0);
    }

    private static void laterOnesStrike() {
        TillTheBell x = Check.of("people 2;coins 0 7;coins 0 8;thing 0 1 2;worth 0 0 3;worth 0 0 4;share 9;share 8;bell 7;bell 6;thing 1 5;");
        Check.is("coins", x.person(0, 0), 8);
        Check.is("worth", x.worth(0, 0), 4);
        Check.is("worth of the other", x.worth(0, 1), 2);
        Check.is("share", x.count(6), 8);
        Check.is("bell", x.count(7), 6);
        Check.is("not told: 0", x.worth(1, 1), 0);
        Check.is("coins not told: 0", x.person(1, 0), 0);
        Check.is("told again, another town", Check.tell(x, "people 3;thing 2;"), 2);
        Check.is("worth 0 of a new town", x.worth(0, 0) + x.worth(0, 1) + x.worth(0, 2), 0);
    }
}
