import java.util.function.Supplier;

/** The sentences of "Texts", of fault() and carryOut(): each place where the fault may lie. */
public final class TextsEdgesTest {
    private static final int BAD_TEXT = -3, NONE = -6;
    private static final String DIGITS = "0123456789";
    private static final Check CHECK = new Check();

    public static void main(String[] args) {
        eachCharacterAtEachPlace();
        numbers();
        leadingZeros();
        members();
        choices();
        tooEarly();
        firstFault();
        faultOnFullPad();
        faultChangesNothing();
        eachOrder();
        upToTheFirstError();
        errorsOfOrders();
        oneChange();
        faultStays();
        padAfterwards();
        CHECK.end();
    }

    private static ProxyVotes written(String text) {
        ProxyVotes x = new ProxyVotes();
        Check.write(x, text);
        CHECK.due("the length of " + text, text.length(), x.count(14));
        return x;
    }

    private static int fault(String text) {
        return written(text).fault();
    }

    /** After the beginning only the next characters can stand; it is a text by itself if it can end there. */
    private static void place(String beginning, String next, boolean ends) {
        String[] before = {"", "c;", "+A;", "m999;o0;vL2;"};
        for (String orders : before) {
            String text = orders + beginning;
            CHECK.due("fault of " + text, ends ? NONE : text.length(), fault(text));
            for (char sign = 33; sign <= 126; sign++) {
                int fault = fault(text + sign);
                if (next.indexOf(sign) < 0) {
                    CHECK.due("fault of " + text + sign, text.length(), fault);
                } else {
                    CHECK.that("fault of " + text + sign + " is none or behind it: " + fault,
                        fault == NONE || fault == text.length() + 1);
                }
            }
        }
    }

    private static void eachCharacterAtEachPlace() {
        CHECK.sentence("The fault is the index of the first character that cannot stand at its place");
        place("", "+-ovcxm", false);
        place("c;", "+-ovcxm", false);
        place("+", "ABCDEFGHIJKL", false);
        place("-", "ABCDEFGHIJKL", false);
        place("v", "ABCDEFGHIJKL", false);
        place("o", DIGITS, false);
        place("m", DIGITS, false);
        place("x", "12", false);
        place("vA", "012", false);
        place("vL", "012", false);
        place("+A", ";", true);
        place("+L", ";", true);
        place("-L", ";", true);
        place("vA0", ";", true);
        place("vL2", ";", true);
        place("x1", ";", true);
        place("x2", ";", true);
        place("c", ";", true);
        for (String sign : new String[] {"o", "m"}) {
            place(sign + "0", ";", true);
            place(sign + "1", DIGITS + ";", true);
            place(sign + "9", DIGITS + ";", true);
            place(sign + "10", DIGITS + ";", true);
            place(sign + "99", DIGITS + ";", true);
            place(sign + "100", ";", true);
            place(sign + "999", ";", true);
        }
    }

    private static void numbers() {
        CHECK.sentence("A number is 0 to 999");
        for (int number = 0; number <= 999; number++) {
            CHECK.due("o" + number, NONE, fault("o" + number));
            CHECK.due("m" + number, NONE, fault("m" + number));
        }
        CHECK.sentence("(also of a digit by which a number would be above 999)");
        int[] above = {1000, 1001, 1999, 9990, 9999, 10000, 99999};
        for (int number : above) {
            CHECK.due("o" + number, 4, fault("o" + number));
            CHECK.due("m" + number, 4, fault("m" + number));
            CHECK.due("c;m" + number, 6, fault("c;m" + number));
            CHECK.due("m" + number + ";c", 4, fault("m" + number + ";c"));
        }
        ProxyVotes x = Committees.plain(1);
        x.put(Check.packed("m600"));
        CHECK.due("all three digits", 1, x.carryOut());
        CHECK.due("600 minutes", 600, x.count(0));
        x.put(Check.packed("m10;m9"));
        x.carryOut();
        CHECK.due("two digits and one", 619, x.count(0));
        x.put(Check.packed("m999"));
        CHECK.due("999 can be read, but not passed", 0, x.carryOut());
        x.put(Check.packed("m601"));
        CHECK.due("601, too", 0, x.carryOut());
    }

    private static void leadingZeros() {
        CHECK.sentence("without leading zeros");
        for (String sign : new String[] {"o", "m"}) {
            CHECK.due(sign + "0", NONE, fault(sign + "0"));
            CHECK.due(sign + "0;c", NONE, fault(sign + "0;c"));
            for (int digit = 0; digit <= 9; digit++) {
                CHECK.due(sign + "0" + digit, 2, fault(sign + "0" + digit));
                CHECK.due(sign + "0" + digit + ";c", 2, fault(sign + "0" + digit + ";c"));
                CHECK.due(sign + digit + "0", digit == 0 ? 2 : NONE, fault(sign + digit + "0"));
            }
            CHECK.due(sign + "000", 2, fault(sign + "000"));
            CHECK.due(sign + "0999", 2, fault(sign + "0999"));
            CHECK.due(sign + "100", NONE, fault(sign + "100"));
        }
    }

    private static void members() {
        CHECK.sentence("A member is a letter from A to L");
        ProxyVotes x = Committees.plain(12);
        for (int member = 0; member < 12; member++) {
            x.put('+');
            x.put('A' + member);
            CHECK.due("+ and the letter of " + member, 1, x.carryOut());
            CHECK.due("who is present", 1 << member, x.count(3));
            x.put('-');
            x.put('A' + member);
            CHECK.due("- and the letter of " + member, 1, x.carryOut());
            CHECK.due("nobody is present", 0, x.count(3));
        }
        CHECK.due("@ is before A", 1, fault("+@"));
        CHECK.due("M is behind L", 1, fault("+M"));
        CHECK.due("a is no A", 1, fault("+a"));
        CHECK.due("l is no L", 1, fault("-l"));
        CHECK.due("M votes", 1, fault("vM1"));
        ProxyVotes y = Committees.plain(11);
        y.put(Check.packed("+L"));
        CHECK.due("a letter of nobody can be read", NONE, y.fault());
        CHECK.due("but not carried out", 0, y.carryOut());
    }

    private static void choices() {
        CHECK.sentence("a choice is a digit from 0 to 2");
        for (int choice = 0; choice <= 9; choice++) {
            CHECK.due("vA" + choice, choice <= 2 ? NONE : 2, fault("vA" + choice));
            CHECK.due("vL" + choice + ";c", choice <= 2 ? NONE : 2, fault("vL" + choice + ";c"));
        }
        CHECK.sentence("(the choice is 1 or 2 there)");
        for (int choice = 0; choice <= 9; choice++) {
            CHECK.due("x" + choice, choice == 1 || choice == 2 ? NONE : 1, fault("x" + choice));
            CHECK.due("c;x" + choice + ";c", choice == 1 || choice == 2 ? NONE : 3, fault("c;x" + choice + ";c"));
        }
        int[] states = {ProxyVotes.CARRIED, ProxyVotes.LOST};
        for (int choice = 1; choice <= 2; choice++) {
            ProxyVotes x = Committees.tied();
            x.put('x');
            x.put('0' + choice);
            CHECK.due("x" + choice, 1, x.carryOut());
            CHECK.due("x" + choice + " breaks the tie", states[choice - 1], x.ofItem(0, 2));
        }
    }

    private static void tooEarly() {
        CHECK.sentence(
            "if there is none and the text ends too early (also if it is empty), it is the length of the text");
        String text = "+A;-B;o0;vC1;c;x2;m999";
        CHECK.due("an empty one", 0, fault(""));
        int[] whole = {2, 5, 8, 12, 14, 17, 20, 21, 22};
        for (int length = 1; length <= text.length(); length++) {
            boolean isWhole = false;
            for (int end : whole) {
                isWhole |= end == length;
            }
            String part = text.substring(0, length);
            CHECK.due(part, isWhole ? NONE : length, fault(part));
        }
        CHECK.due("80 that end too early", 80, fault("c;".repeat(40)));
        CHECK.due("79 that do not", NONE, fault("c;".repeat(39) + "c"));
        CHECK.due("80 that end within an order", 80, fault("c;".repeat(39) + "vA"));
        CHECK.due("79 that end within an order", 79, fault("c;".repeat(39) + "+"));
    }

    private static void firstFault() {
        CHECK.sentence("the first character that cannot stand at its place when the text is read from left to right");
        CHECK.due("two faults", 1, fault("+M;-M"));
        CHECK.due("two faults, and too early", 0, fault("?;?"));
        CHECK.due("a fault, and too early", 3, fault("c;c+"));
        CHECK.due("two ends of an order", 2, fault("c;;c"));
        CHECK.due("an end before all", 0, fault(";c"));
        CHECK.due("no end between two orders", 2, fault("+A-A"));
        CHECK.due("an order within an order", 1, fault("+-A"));
        CHECK.due("a large letter", 0, fault("C"));
    }

    private static void faultOnFullPad() {
        CHECK.sentence("The pad is a text of at most 80 characters");
        CHECK.due("80 without a fault", NONE, fault("c;".repeat(39) + "+A"));
        CHECK.due("a fault at 79", 79, fault("c;".repeat(39) + "cc"));
        CHECK.due("a fault at 78", 78, fault("c;".repeat(39) + "A+"));
        CHECK.due("three digits up to 79", NONE, fault("c;".repeat(38) + "m999"));
        CHECK.due("a digit too many at 79", 79, fault("+A;" + "c;".repeat(36) + "m1000"));
        CHECK.due("a digit behind a 0 at 79", 79, fault("+A;" + "c;".repeat(37) + "m01"));
        CHECK.due("a fault at 0 of 80", 0, fault(";c".repeat(40)));
        ProxyVotes x = written("c;".repeat(39) + "c");
        x.put(';');
        CHECK.due("full", 80, x.fault());
        x.put('c');
        CHECK.due("what was refused is not there", 80, x.fault());
    }

    private static void faultChangesNothing() {
        CHECK.sentence("Returns the fault of the pad, NONE if there is none.");
        CHECK.asks("none", NONE, Committees::busy, ProxyVotes::fault);
        CHECK.asks("one", 2, Check.after(Committees::tied, x -> x.put(Check.packed("+A+"))), ProxyVotes::fault);
        CHECK.asks("too early", 3, Check.after(Committees::tied, x -> x.put(Check.packed("+A;"))), ProxyVotes::fault);
    }

    private static void eachOrder() {
        CHECK.sentence(
            "\"+\": come(), \"-\": go(), \"o\": open() of an item, \"v\": vote() of a member, \"c\": close()");
        ProxyVotes x = Committees.plain(2);
        x.item(0, 0);
        Check.write(x, "+B;+A;-B;+B;o1;vB2;vA1;vA0;c;o0;c;x1;m15");
        CHECK.due("thirteen orders", 13, x.carryOut());
        ProxyVotes y = Committees.plain(2);
        y.item(0, 0);
        y.come(1);
        y.come(0);
        y.go(1);
        y.come(1);
        y.open(1);
        y.vote(1, 2);
        y.vote(0, 1);
        y.vote(0, 0);
        y.close();
        y.open(0);
        y.close();
        y.cast(1);
        y.pass(15);
        CHECK.same("as by calls", Check.state(y), Check.state(x));
        CHECK.due("0 against 1", ProxyVotes.LOST, x.ofItem(1, 2));
    }

    private static ProxyVotes with(Supplier<ProxyVotes> made, String text) {
        ProxyVotes x = made.get();
        x.wipe();
        Check.write(x, text);
        return x;
    }

    private static void upToTheFirstError() {
        CHECK.sentence("one after the other, up to the first one that returns an error, and empties the pad");
        String[] texts = {"+A;m1;m2", "m1;+A;m2", "m1;m2;+A"};
        int[] minutes = {0, 1, 3};
        for (int place = 0; place < 3; place++) {
            ProxyVotes x = with(Committees::tied, texts[place]);
            CHECK.due(texts[place], place, x.carryOut());
            CHECK.due("what stands before the error", minutes[place], x.count(0));
            CHECK.due("the pad is empty", 0, x.count(14));
        }
        ProxyVotes y = with(Committees::tied, "m1;m2;m3");
        CHECK.due("no error", 3, y.carryOut());
        CHECK.due("all of them", 6, y.count(0));
        ProxyVotes z = with(Committees::tied, "x1;x1;m1");
        CHECK.due("an order can be possible once", 1, z.carryOut());
        CHECK.due("not behind the error", 0, z.count(0));
        ProxyVotes w = with(() -> Committees.opened(2), "-A;vB1;vA1;m1");
        CHECK.due("an order may make another one fail", 2, w.carryOut());
    }

    /** Each of these fails in tied() or in busy(). */
    private static void errorsOfOrders() {
        CHECK.sentence("up to the first one that returns an error");
        String[] inTied = {"+A", "+D", "+L", "-D", "o0", "o1", "o3", "o12", "o999", "vA1", "vD1", "c", "m0", "m601"};
        for (String text : inTied) {
            CHECK.change(text, 0, () -> with(Committees::tied, text + ";m1"), ProxyVotes::carryOut);
        }
        String[] inBusy = {"+A", "+E", "-B", "-E", "o0", "o1", "o2", "o3", "vB1", "vD1", "vE1", "x1", "x2", "m999"};
        for (String text : inBusy) {
            CHECK.change(text, 0, () -> with(Committees::busy, text + ";m1"), ProxyVotes::carryOut);
        }
        CHECK.change("above 9000", 0, () -> with(Committees::atTheEnd, "m1"), ProxyVotes::carryOut);
    }

    private static void oneChange() {
        CHECK.sentence("This is a change (one, with all of them; also if none is carried out).");
        CHECK.change("none", 0, () -> with(Committees::tied, "+A"), ProxyVotes::carryOut);
        CHECK.change("one", 1, () -> with(Committees::tied, "m1"), ProxyVotes::carryOut);
        Supplier<ProxyVotes> open = () -> Committees.opened(2);
        CHECK.change("eight", 8, () -> with(open, "m1;m2;-A;+A;vA1;vB2;c;x2"), ProxyVotes::carryOut);
        CHECK.sentence("An order of a text records nothing by itself.");
        ProxyVotes x = new ProxyVotes();
        x.put(Check.packed("m1;m1"));
        CHECK.due("two orders", 2, x.carryOut());
        CHECK.due("one change", 1, x.count(15));
        CHECK.due("undone", 0, x.undo());
        CHECK.due("both of them", 0, x.count(0));
    }

    private static void faultStays() {
        CHECK.sentence("BAD_TEXT if the pad has a fault (then it stays)");
        String[] texts = {"+", "m1;", "m1;?", "m1;m1000", "m01", "c;c;c;x0"};
        for (String text : texts) {
            CHECK.refused(text, BAD_TEXT, () -> with(Committees::busy, text), ProxyVotes::carryOut);
        }
        ProxyVotes x = with(Committees::tied, "m1;m");
        CHECK.due("it ends too early", BAD_TEXT, x.carryOut());
        CHECK.due("it goes on", 5, x.put('5'));
        CHECK.due("now it can be carried out", 2, x.carryOut());
        CHECK.due("both orders", 6, x.count(0));
    }

    private static void padAfterwards() {
        CHECK.sentence("and empties the pad");
        ProxyVotes x = with(Committees::tied, "m1;m2");
        x.carryOut();
        CHECK.due("it is empty", 0, x.count(14));
        CHECK.due("it has the fault of an empty one", 0, x.fault());
        CHECK.due("it can't be carried out again", BAD_TEXT, x.carryOut());
        CHECK.due("the minute", 3, x.count(0));
        x.put(Check.packed("m4"));
        CHECK.due("nothing is left of it", 2, x.count(14));
        CHECK.due("nothing is left of it", 1, x.carryOut());
        CHECK.due("the minute", 7, x.count(0));
    }
}
