/** Promises 17 to 20. */
public final class WhatThereIsTest {
    private static final int NO_SUCH = -1, BAD_VALUE = -2, NONE = -6;
    private static final int[] FAR = {-1, 12, 32, NONE, Integer.MAX_VALUE, Integer.MIN_VALUE};
    private static final Check CHECK = new Check();

    public static void main(String[] args) {
        promise17OfMember();
        promise18OfItem();
        promise19At();
        promise20Count();
        CHECK.end();
    }

    /** Two items are decided, one of them by the chair; the third is open. */
    private static ProxyVotes session() {
        ProxyVotes x = new ProxyVotes();
        x.member(3, 0);
        x.member(2, 1);
        x.member(4, 2);
        x.item(0, 0);
        x.item(1, 2);
        x.item(2, 0);
        x.proxy(2, NONE, 0);
        x.proxy(2, 2, 1);
        x.tell(2, 2, 2);
        Check.come(x, 0, 1);
        x.open(0);
        x.vote(0, 0);
        x.vote(1, 0);
        x.close();
        x.cast(1);
        x.open(1);
        x.vote(0, 1);
        x.close();
        x.open(2);
        x.vote(1, 1);
        return x;
    }

    private static void promise17OfMember() {
        ProxyVotes x = session();
        CHECK.numbers("17: member 0, ", new int[] {3, 0, 1, NONE, 2, 1}, Check.ofMember(x, 0));
        CHECK.numbers("17: member 1, ", new int[] {2, 1, 1, NONE, 2, 0}, Check.ofMember(x, 1));
        CHECK.numbers("17: member 2, ", new int[] {4, 2, 0, 0, 0, 0}, Check.ofMember(x, 2));
        for (int far : FAR) {
            CHECK.due("17: no member " + far, NO_SUCH, x.ofMember(far, 0));
            CHECK.due("17: no member " + far, NO_SUCH, x.ofMember(far, 6));
            CHECK.due("17: no number " + far, BAD_VALUE, x.ofMember(0, far));
        }
        CHECK.due("17: no member 3", NO_SUCH, x.ofMember(3, 0));
        CHECK.due("17: no number 6", BAD_VALUE, x.ofMember(2, 6));
        CHECK.due("17: no members", NO_SUCH, new ProxyVotes().ofMember(0, 0));
    }

    private static void promise18OfItem() {
        ProxyVotes x = session();
        CHECK.numbers("18: item 0, ", new int[] {0, 0, 3, 9, 0, 0, 0, 0, 0, 0, 0, 1}, Check.ofItem(x, 0));
        CHECK.numbers("18: item 1, ", new int[] {1, 2, 3, 0, 7, 0, 0, 0, 2, NONE, 0, 1}, Check.ofItem(x, 1));
        CHECK.numbers("18: item 2, ", new int[] {2, 0, 1, 0, 2, 4, 3, 0, 0, NONE, 0, 1}, Check.ofItem(x, 2));
        x.go(0);
        x.go(1);
        CHECK.numbers("18: item 0, ", new int[] {0, 0, 3, 9, 0, 0, 0, 0, 0, 0, 0, 0}, Check.ofItem(x, 0));
        CHECK.numbers("18: item 2, ", new int[] {2, 0, 1, 0, 2, 0, 0, 7, 0, NONE, 0, 0}, Check.ofItem(x, 2));
        x.close();
        CHECK.numbers("18: item 2, ", new int[] {2, 0, 0, 0, 0, 0, 0, 9, 0, NONE, 1, 0}, Check.ofItem(x, 2));
        for (int far : FAR) {
            CHECK.due("18: no item " + far, NO_SUCH, x.ofItem(far, 0));
            CHECK.due("18: no item " + far, NO_SUCH, x.ofItem(far, 12));
            CHECK.due("18: no number " + far, BAD_VALUE, x.ofItem(0, far));
        }
        CHECK.due("18: no item 3", NO_SUCH, x.ofItem(3, 0));
        CHECK.due("18: no items", NO_SUCH, new ProxyVotes().ofItem(0, 0));
        // A member who joins later is none of what was counted.
        x.member(9, 0);
        CHECK.same("18: as it was counted", Check.row(9, 0, 0, 0, 0, 0), Check.sums(x, 0));
        CHECK.same("18: as things are", Check.row(0, 0, 0, 0, 18, 0), Check.sums(x, 2));
    }

    private static void promise19At() {
        ProxyVotes x = session();
        CHECK.numbers("19: 0, 0, ", new int[] {0, 0, NONE, 0, NONE, 0, 4}, Check.at(x, 0, 0));
        CHECK.numbers("19: 1, 0, ", new int[] {1, 0, NONE, 0, NONE, 0, 0}, Check.at(x, 1, 0));
        CHECK.numbers("19: 2, 0, ", new int[] {0, NONE, NONE, 0, NONE, 0, 0}, Check.at(x, 2, 0));
        CHECK.numbers("19: 0, 1, ", new int[] {0, 1, NONE, 1, NONE, 0, 4}, Check.at(x, 0, 1));
        CHECK.numbers("19: 1, 1, ", new int[] {NONE, NONE, NONE, 5, NONE, 1, 0}, Check.at(x, 1, 1));
        CHECK.numbers("19: 2, 1, ", new int[] {0, NONE, NONE, 1, NONE, 0, 0}, Check.at(x, 2, 1));
        CHECK.numbers("19: 0, 2, ", new int[] {0, NONE, NONE, 3, NONE, 0, 0}, Check.at(x, 0, 2));
        CHECK.numbers("19: 1, 2, ", new int[] {1, 1, NONE, 1, NONE, 0, 4}, Check.at(x, 1, 2));
        CHECK.numbers("19: 2, 2, ", new int[] {1, NONE, 2, 2, 1, 0, 0}, Check.at(x, 2, 2));
        for (int far : FAR) {
            CHECK.due("19: no member " + far, NO_SUCH, x.at(far, 0, 7));
            CHECK.due("19: no item " + far, NO_SUCH, x.at(0, far, 7));
            CHECK.due("19: no number " + far, BAD_VALUE, x.at(0, 0, far));
        }
        CHECK.due("19: no member 3", NO_SUCH, x.at(3, 0, 0));
        CHECK.due("19: no item 3", NO_SUCH, x.at(0, 3, 0));
        CHECK.due("19: no number 7", BAD_VALUE, x.at(0, 0, 7));
    }

    private static void promise20Count() {
        ProxyVotes x = session();
        x.pass(7);
        x.later(8, 2, 1);
        x.later(9, 2, 0);
        x.chair(2);
        x.put(Check.packed("+A;"));
        x.set(ProxyVotes.QUORUM, 1);
        x.set(ProxyVotes.LATE_QUORUM, 2);
        x.set(ProxyVotes.LATE, 3);
        x.set(ProxyVotes.LIMIT, 4);
        x.set(ProxyVotes.CHAIN, 0);
        int[] due = {7, 3, 3, 3, 2, 2, 0, 9, 0, 1, 0, 2, 0, 2, 3, 6, 1, 2, 3, 4, 0, 1};
        for (int what = 0; what < due.length; what++) {
            CHECK.due("20: count(" + what + ")", due[what], x.count(what));
        }
        int[] wrong = {-1, 22, 32, NONE, Integer.MAX_VALUE, Integer.MIN_VALUE};
        for (int what : wrong) {
            CHECK.due("20: count(" + what + ")", BAD_VALUE, x.count(what));
        }
        ProxyVotes y = Check.committee(1, 1);
        for (int item = 0; item < 10; item++) {
            y.item(0, 0);
        }
        Check.come(y, 0, 1);
        for (int item = 2; item < 9; item++) {
            y.open(item);
            if (item < 8) {
                y.vote(0, item % 3);
                y.close();
            }
        }
        CHECK.due("20: waiting", 3, y.count(8));
        CHECK.due("20: open", 1, y.count(9));
        CHECK.due("20: tied", 2, y.count(10));
        CHECK.due("20: carried", 2, y.count(11));
        CHECK.due("20: lost", 2, y.count(12));
        CHECK.due("20: the open one", 8, y.count(4));
    }
}
