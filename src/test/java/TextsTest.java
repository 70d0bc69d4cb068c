import java.util.List;

/** Promises 27 to 30. */
public final class TextsTest {
    private static final int BAD_VALUE = -2, BAD_TEXT = -3, TOO_MANY = -4, NOT_POSSIBLE = -5, NONE = -6;
    private static final Check CHECK = new Check();

    public static void main(String[] args) {
        promise27Put();
        promise28Wipe();
        promise29Fault();
        promise30CarryOut();
        promise30Errors();
        promise30AllOrders();
        CHECK.end();
    }

    private static void promise27Put() {
        ProxyVotes x = new ProxyVotes();
        long[] wrong = {0, 1, 32, 127, 128, 255, 256, 0x4100, 0x410041, 0x4100000000000041L, 0x2041, 0x4120, 0x7f41,
            0x2041414141414141L, 0x8041414141414141L, -1, Long.MIN_VALUE, Long.MAX_VALUE, 0x100000041L};
        for (long characters : wrong) {
            CHECK.due("27: put(" + characters + ")", BAD_VALUE, x.put(characters));
        }
        CHECK.due("27: nothing was put", 0, x.count(14));
        CHECK.due("27: the lowest code", 1, x.put(33));
        CHECK.due("27: the highest code", 2, x.put(126));
        CHECK.due("27: no change", 0, x.count(15));
        x.wipe();
        CHECK.due("27: one", 1, x.put(Check.packed("+")));
        CHECK.due("27: the last is the lowest", 8, x.put(Check.packed("A;+B;m9")));
        CHECK.due("27: no fault", NONE, x.fault());
        x.wipe();
        for (int length = 8; length <= 72; length += 8) {
            CHECK.due("27: eight", length, x.put(Check.packed("c;c;c;c;")));
        }
        CHECK.due("27: seven", 79, x.put(Check.packed("c;c;c;c")));
        CHECK.due("27: above 80", TOO_MANY, x.put(Check.packed("99")));
        CHECK.due("27: bad before too many", BAD_VALUE, x.put(32));
        CHECK.due("27: nothing was put", 79, x.count(14));
        CHECK.due("27: no fault", NONE, x.fault());
        CHECK.due("27: just 80", 80, x.put(Check.packed(";")));
        CHECK.due("27: it ends too early", 80, x.fault());
        CHECK.due("27: above 80", TOO_MANY, x.put(Check.packed("c")));
        CHECK.due("27: above 80", TOO_MANY, x.put(Check.packed("cccccccc")));
        CHECK.due("27: 80 still", 80, x.count(14));
    }

    private static void promise28Wipe() {
        ProxyVotes x = Check.committee(1);
        CHECK.due("28: nothing", 0, x.wipe());
        x.put(Check.packed("+A;-A"));
        CHECK.due("28: five", 5, x.wipe());
        CHECK.due("28: empty", 0, x.count(14));
        CHECK.due("28: nothing again", 0, x.wipe());
        CHECK.due("28: no change", 1, x.count(15));
        x.put(Check.packed("+A"));
        CHECK.due("28: a new text", NONE, x.fault());
    }

    private static int fault(String text) {
        ProxyVotes x = new ProxyVotes();
        Check.write(x, text);
        return x.fault();
    }

    private static void promise29Fault() {
        String[] right = {"+A", "+L", "-A", "-L", "o0", "o9", "o10", "o999", "vA0", "vL2", "vB1", "c", "x1", "x2", "m0",
            "m7", "m600", "m999", "c;c", "+A;-A;o0;vA1;c;x1;m1", "m0;m0", "o12;c", "o123;c"};
        for (String text : right) {
            CHECK.due("29: " + text, NONE, fault(text));
        }
        String[] early = {"", "+", "-", "o", "v", "vA", "x", "m", "c;", "+A;", "m1;", "c;+", "c;vA", "o999;", "m0;m"};
        for (String text : early) {
            CHECK.due("29: " + text, text.length(), fault(text));
        }
        String[] wrong = {"A", "0", ";", "+M", "+a", "+0", "-@", "-;", "oA", "o;", "o0x", "o01", "o00", "m1000",
            "o9990", "mA", "v1", "vM", "vA3", "vAA", "vA00", "cc", "c;;", "c1", "x0", "x3", "xA", "x11", "+AB", "+A+",
            "m12c",
            "C", "O1", "V", "c;c;c,", "+A;o1000", "vA1;vB3", "m05", "m-1", "c;A", "m999;m9999", "+A;-B;x0"};
        int[] places = {0, 0, 0, 1, 1, 1, 1, 1, 1, 1, 2, 2, 2, 4, 4,
            1, 1, 1, 2, 2, 3, 1, 2, 1, 1, 1, 1, 2, 2, 2, 3,
            0, 0, 0, 5, 7, 6, 2, 1, 2, 9, 7};
        for (int i = 0; i < wrong.length; i++) {
            CHECK.due("29: " + wrong[i], places[i], fault(wrong[i]));
        }
        ProxyVotes x = new ProxyVotes();
        Check.write(x, "c;c");
        x.fault();
        CHECK.due("29: nothing changes", 3, x.count(14));
        CHECK.due("29: no change", 0, x.count(15));
    }

    private static void promise30CarryOut() {
        ProxyVotes x = Check.committee(1, 2);
        x.item(0, 0);
        CHECK.due("30: an empty pad", BAD_TEXT, x.carryOut());
        Check.write(x, "+A;+B;");
        List<Integer> before = Check.all(x);
        CHECK.due("30: a fault", BAD_TEXT, x.carryOut());
        CHECK.same("30: nothing changes", before, Check.all(x));
        List<Integer> state = Check.state(x);
        Check.write(x, "o0;vA2;vB1;c");
        CHECK.due("30: six orders", 6, x.carryOut());
        CHECK.due("30: carried", ProxyVotes.CARRIED, x.ofItem(0, 2));
        CHECK.due("30: the pad is empty", 0, x.count(14));
        CHECK.due("30: one change", 4, x.count(15));
        CHECK.due("30: undone", 3, x.undo());
        CHECK.same("30: all of it", state, Check.state(x));
        CHECK.due("30: the pad stays empty", 0, x.count(14));
    }

    private static void promise30Errors() {
        ProxyVotes x = Check.committee(1, 2);
        Check.write(x, "+A;+A;+B");
        CHECK.due("30: up to the first error", 1, x.carryOut());
        Check.write(x, "m1;m2;m4");
        x.carryOut();
        Check.write(x, "m8");
        CHECK.due("30: only what is on the pad", 1, x.carryOut());
        CHECK.due("30: only what is on the pad", 15, x.count(0));
        x.undo();
        x.undo();
        CHECK.due("30: not behind it", 1, x.count(3));
        CHECK.due("30: the pad is empty", 0, x.count(14));
        CHECK.due("30: one change", 3, x.count(15));
        Check.write(x, "+A;+B");
        CHECK.due("30: none is carried out", 0, x.carryOut());
        CHECK.due("30: a change all the same", 4, x.count(15));
        CHECK.due("30: nothing is different", 1, x.count(3));
        CHECK.due("30: the pad is empty", 0, x.count(14));
        String[] errors = {"+L", "-L", "-B", "o0", "o999", "vA1", "vL1", "c", "x1", "m0", "m601", "m999"};
        for (String text : errors) {
            Check.write(x, text + ";m1");
            CHECK.due("30: " + text, 0, x.carryOut());
            CHECK.due("30: " + text, 0, x.count(0));
        }
        x.item(0, 0);
        x.come(1);
        x.open(0);
        Check.write(x, "vA1;vA0;m1");
        CHECK.due("30: NONE is no error", 3, x.carryOut());
    }

    private static void promise30AllOrders() {
        ProxyVotes x = Check.committee(1, 1, 1, 1, 1, 1, 1, 1, 1, 1, 1, 1);
        for (int item = 0; item < 12; item++) {
            x.item(0, 0);
        }
        x.set(ProxyVotes.QUORUM, 0);
        Check.write(x, "+L;+K;o11;vL2;vK1;m12;c;x1;m123;-K;o10;vL0;c;x2;o9;vL2;c");
        CHECK.due("30: all orders", 17, x.carryOut());
        CHECK.due("30: who is present", 1 << 11, x.count(3));
        CHECK.due("30: the minute", 135, x.count(0));
        CHECK.due("30: tied, then carried", ProxyVotes.CARRIED, x.ofItem(11, 2));
        CHECK.due("30: broken by the lowest present", 10, x.ofItem(11, 9));
        CHECK.due("30: tied, then lost", ProxyVotes.LOST, x.ofItem(10, 2));
        CHECK.due("30: broken by the one present", 11, x.ofItem(10, 9));
        CHECK.due("30: lost", ProxyVotes.LOST, x.ofItem(9, 2));
        CHECK.due("30: the votes", 2, x.at(11, 11, 1));
        CHECK.due("30: the votes", 1, x.at(10, 11, 1));
        CHECK.due("30: the votes", 0, x.at(11, 10, 1));
        Check.write(x, "m1;m1;m1;m1;m1;m1;m1;m1;m1;m1;m1;m1;m1;m1;m1;m1;m1;m1;m1;m1;m1;m1;m1;m1;m1;m1;m1");
        CHECK.due("30: as many as find a place", 80, x.count(14));
        CHECK.due("30: 27 orders", 27, x.carryOut());
        CHECK.due("30: the minute", 162, x.count(0));
        x.open(0);
        Check.write(x, "c;c;c;c;c;c;c;c;c;c;c;c;c;c;c;c;c;c;c;c;c;c;c;c;c;c;c;c;c;c;c;c;c;c;c;c;c;c;c;c");
        CHECK.due("30: only the first can be carried out", 1, x.carryOut());
        CHECK.due("30: nothing else is open", NOT_POSSIBLE, x.close());
        CHECK.due("30: bad texts are none of the changes", 6, x.count(15));
    }
}
