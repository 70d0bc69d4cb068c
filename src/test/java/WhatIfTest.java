import java.util.List;

/** Promises 21 to 26. */
public final class WhatIfTest {
    private static final int NO_SUCH = -1, BAD_VALUE = -2, NOT_POSSIBLE = -5, NONE = -6;
    private static final int[] FAR = {-1, 12, 32, NONE, Integer.MAX_VALUE, Integer.MIN_VALUE};
    private static final Check CHECK = new Check();

    public static void main(String[] args) {
        promise21WouldBe();
        promise22Decisive();
        promise23Needed();
        promise23LowestMask();
        promise24Power();
        promise25QuorumAt();
        promise25Turns();
        promise26BestHolder();
        promise26Ways();
        nothingChanges();
        CHECK.end();
    }

    /** An item of a kind is open, and all are present. */
    private static ProxyVotes opened(int kind, int... weights) {
        ProxyVotes x = Check.committee(weights);
        x.item(kind, 0);
        for (int member = 0; member < weights.length; member++) {
            x.come(member);
        }
        x.open(0);
        return x;
    }

    private static void promise21WouldBe() {
        ProxyVotes x = Check.committee(1, 2);
        CHECK.due("21: no item", NO_SUCH, x.wouldBe(0));
        x.item(0, 0);
        x.item(1, 0);
        for (int far : FAR) {
            CHECK.due("21: no item " + far, NO_SUCH, x.wouldBe(far));
        }
        CHECK.due("21: no item 2", NO_SUCH, x.wouldBe(2));
        CHECK.due("21: waiting, without a quorum", ProxyVotes.TIED, x.wouldBe(0));
        CHECK.due("21: waiting, without a quorum", ProxyVotes.LOST, x.wouldBe(1));
        Check.come(x, 1);
        x.proxy(0, NONE, 1);
        x.tell(0, 0, 1);
        CHECK.due("21: by a told choice", ProxyVotes.CARRIED, x.wouldBe(0));
        x.open(1);
        CHECK.due("21: another one is open", ProxyVotes.CARRIED, x.wouldBe(0));
        x.vote(1, 1);
        CHECK.due("21: open", ProxyVotes.CARRIED, x.wouldBe(1));
        x.set(ProxyVotes.QUORUM, 100);
        x.proxy(0, NONE, NONE);
        CHECK.due("21: open, without a quorum", ProxyVotes.CARRIED, x.wouldBe(1));
        x.set(ProxyVotes.CASTING, 0);
        CHECK.due("21: CASTING is asked", ProxyVotes.LOST, x.wouldBe(0));
        x.set(ProxyVotes.QUORUM, 0);
        x.close();
        CHECK.due("21: closed", NOT_POSSIBLE, x.wouldBe(1));
        x.set(ProxyVotes.CASTING, 1);
        x.open(0);
        x.close();
        CHECK.due("21: tied", NOT_POSSIBLE, x.wouldBe(0));
        x.cast(2);
        CHECK.due("21: lost", NOT_POSSIBLE, x.wouldBe(0));
    }

    private static void promise22Decisive() {
        ProxyVotes x = opened(0, 3, 2, 1);
        for (int far : FAR) {
            CHECK.due("22: no item " + far, NO_SUCH, x.decisive(far));
        }
        CHECK.due("22: no item 1", NO_SUCH, x.decisive(1));
        CHECK.due("22: nobody has voted", 7, x.decisive(0));
        x.vote(0, 1);
        CHECK.due("22: only the first one", 1, x.decisive(0));
        x.vote(1, 2);
        CHECK.due("22: 3 to 2, a tie with the last one; it is carried already", 5, x.decisive(0));
        x.vote(2, 1);
        CHECK.due("22: 4 to 2", 5, x.decisive(0));
        x.vote(2, 2);
        CHECK.due("22: 3 to 3", 7, x.decisive(0));
        x.recuse(2, 0, 1);
        CHECK.due("22: recused ones can't vote", 1, x.decisive(0));
        x.go(1);
        CHECK.due("22: absent ones can't vote", 1, x.decisive(0));
        x.close();
        CHECK.due("22: closed", NOT_POSSIBLE, x.decisive(0));
        ProxyVotes y = opened(0, 1, 1, 3);
        y.proxy(2, NONE, 0);
        y.go(2);
        y.vote(1, 1);
        y.vote(0, 1);
        CHECK.due("22: with those for whom one speaks", 1, y.decisive(0));
        y.tell(2, 0, 1);
        CHECK.due("22: a told choice can't be turned", 0, y.decisive(0));
        y.tell(2, 0, 2);
        CHECK.due("22: 2 to 3 is lost whatever they do", 0, y.decisive(0));
        ProxyVotes z = opened(2, 1, 1);
        CHECK.due("22: all; each could carry it alone", 3, z.decisive(0));
        z.vote(0, 0);
        CHECK.due("22: the one who abstains alone; the other one can't", 1, z.decisive(0));
        z.vote(1, 1);
        CHECK.due("22: only who abstains", 1, z.decisive(0));
        ProxyVotes w = opened(0, 1, 1);
        w.set(ProxyVotes.CASTING, 0);
        w.vote(0, 2);
        CHECK.due("22: without ties", 1, w.decisive(0));
        w.set(ProxyVotes.CASTING, 1);
        CHECK.due("22: with ties", 3, w.decisive(0));
        ProxyVotes v = Check.committee(1, 1);
        v.item(0, 0);
        CHECK.due("22: nobody could vote", 0, v.decisive(0));
        v.come(1);
        v.set(ProxyVotes.QUORUM, 100);
        CHECK.due("22: while it waits, too", 2, v.decisive(0));
        v.member(1, 3);
        v.item(0, 8);
        v.come(2);
        CHECK.due("22: recused by the group", 2, v.decisive(1));
        ProxyVotes u = opened(0, 1, 1, 1, 1, 1, 1, 1, 1, 1, 1, 1, 1);
        CHECK.due("22: twelve", 4095, u.decisive(0));
    }

    private static void needed(ProxyVotes x, String what, int number, int set) {
        CHECK.due("23: how many, " + what, number, x.needed(0, 0));
        CHECK.due("23: the set, " + what, set, x.needed(0, 1));
    }

    private static void promise23Needed() {
        ProxyVotes x = opened(0, 1, 2, 3, 4);
        for (int far : FAR) {
            CHECK.due("23: no item " + far, NO_SUCH, x.needed(far, 2));
            CHECK.due("23: no number " + far, BAD_VALUE, x.needed(0, far));
        }
        CHECK.due("23: no item 1", NO_SUCH, x.needed(1, 0));
        CHECK.due("23: no number 2", BAD_VALUE, x.needed(0, 2));
        needed(x, "any one", 1, 1);
        x.vote(3, 2);
        needed(x, "two against 4", 2, 6);
        x.vote(2, 1);
        needed(x, "3 to 4", 1, 2);
        x.vote(1, 2);
        needed(x, "3 to 6", NONE, NONE);
        x.vote(1, 1);
        needed(x, "5 to 4", 0, 0);
        x.vote(1, 0);
        needed(x, "one is left, 3 to 4", NONE, NONE);
        x.close();
        CHECK.due("23: closed", NOT_POSSIBLE, x.needed(0, 0));
        CHECK.due("23: bad first", BAD_VALUE, x.needed(0, 2));
        ProxyVotes y = opened(1, 2, 1, 1);
        y.vote(0, 2);
        needed(y, "two thirds", NONE, NONE);
        y.vote(0, 1);
        y.vote(1, 2);
        needed(y, "two thirds are there", 0, 0);
        y.vote(0, 0);
        needed(y, "1 to 1 is no two thirds", NONE, NONE);
        ProxyVotes z = opened(2, 1, 1, 1);
        z.vote(2, 0);
        needed(z, "one abstains", NONE, NONE);
        z.vote(2, 1);
        needed(z, "one is enough", 0, 0);
        ProxyVotes w = opened(0, 5, 1, 1, 4);
        w.proxy(3, NONE, 2);
        w.go(3);
        w.vote(0, 2);
        needed(w, "with those for whom they speak, 5 against 5", 2, 6);
        w.tell(3, 0, 1);
        needed(w, "a told choice counts already", 2, 6);
        w.tell(3, 0, 2);
        needed(w, "and can't be turned", NONE, NONE);
        w.tell(3, 0, NONE);
        w.recuse(1, 0, 1);
        needed(w, "recused ones can't vote", NONE, NONE);
        ProxyVotes v = Check.committee(2, 3);
        v.item(0, 0);
        needed(v, "nobody is present", NONE, NONE);
        v.set(ProxyVotes.QUORUM, 100);
        v.come(1);
        needed(v, "while it waits", 1, 2);
        ProxyVotes u = opened(0, 2, 1, 1);
        u.set(ProxyVotes.CASTING, 0);
        u.vote(0, 2);
        needed(u, "a tie is not carried", NONE, NONE);
        ProxyVotes t = new ProxyVotes();
        t.member(4, 1);
        t.member(1, 2);
        t.item(0, 2);
        Check.come(t, 0, 1);
        needed(t, "recused by the group", 1, 2);
    }

    private static void promise23LowestMask() {
        ProxyVotes x = opened(0, 9, 1, 4, 5, 6, 3, 7);
        x.vote(0, 2);
        // More than 9: 4 + 6 is mask 20; 4 + 7, 5 + 6, .. are higher masks; 5 + 4 is too little.
        needed(x, "the lowest of several pairs", 2, 20);
        ProxyVotes y = opened(0, 1, 1, 1, 1, 1, 1, 1, 1, 1, 1, 1, 1);
        y.vote(0, 2);
        y.vote(11, 2);
        needed(y, "three", 3, 14);
        y.vote(1, 1);
        y.vote(3, 1);
        needed(y, "those who have voted are none of them", 1, 4);
        ProxyVotes z = opened(0, 9, 9, 9, 9, 9, 9, 9, 9, 9, 9, 9, 9);
        for (int member = 0; member < 5; member++) {
            z.vote(member, 2);
        }
        needed(z, "six of seven", 6, 0x7e0);
        z.vote(5, 2);
        needed(z, "six to six", NONE, NONE);
    }

    private static void promise24Power() {
        ProxyVotes x = new ProxyVotes();
        CHECK.due("24: no member", NO_SUCH, x.power(0));
        x.member(3, 0);
        CHECK.due("24: alone", 1, x.power(0));
        ProxyVotes w = Check.committee(4, 2, 1);
        CHECK.due("24: 4 of 7", 4, w.power(0));
        CHECK.due("24: 2 of 7", 0, w.power(1));
        CHECK.due("24: 1 of 7", 0, w.power(2));
        x.member(1, 1);
        CHECK.due("24: 3 of 4", 2, x.power(0));
        CHECK.due("24: 1 of 4", 0, x.power(1));
        x.member(2, 2);
        // All weigh 6: a set needs 4.
        CHECK.due("24: 3 of 6", 3, x.power(0));
        CHECK.due("24: 1 of 6", 1, x.power(1));
        CHECK.due("24: 2 of 6", 1, x.power(2));
        x.come(1);
        x.item(0, 15);
        CHECK.due("24: who is present makes no difference", 3, x.power(0));
        for (int far : FAR) {
            CHECK.due("24: no member " + far, NO_SUCH, x.power(far));
        }
        CHECK.due("24: no member 3", NO_SUCH, x.power(3));
        ProxyVotes y = Check.committee(1, 1, 1, 1, 1, 1, 1, 1, 1, 1, 1, 1);
        // Twelve of 1: the others have to be just 6 of 11.
        CHECK.due("24: 6 of 11", 462, y.power(11));
        ProxyVotes z = Check.committee(9, 9, 9, 9, 9, 9, 9, 9, 9, 9, 9, 9);
        CHECK.due("24: 6 of 11", 462, z.power(0));
    }

    private static void promise25QuorumAt() {
        ProxyVotes x = Check.committee(1, 1, 1, 1);
        CHECK.due("25: no item", NO_SUCH, x.quorumAt(0));
        x.item(0, 0);
        x.item(0, 15);
        for (int far : FAR) {
            CHECK.due("25: no item " + far, NO_SUCH, x.quorumAt(far));
        }
        CHECK.due("25: never", NONE, x.quorumAt(0));
        x.come(0);
        CHECK.due("25: never", NONE, x.quorumAt(0));
        x.set(ProxyVotes.LATE_QUORUM, 25);
        CHECK.due("25: when it is late", 240, x.quorumAt(0));
        x.set(ProxyVotes.LATE_QUORUM, 26);
        x.come(1);
        CHECK.due("25: now", 0, x.quorumAt(0));
        x.pass(5);
        CHECK.due("25: now", 5, x.quorumAt(0));
        x.go(1);
        x.later(50, 1, 1);
        x.later(40, 2, 1);
        x.later(40, 2, 0);
        x.later(30, 3, 0);
        CHECK.due("25: one who only looks in does not count", 50, x.quorumAt(0));
        x.later(35, 3, 1);
        CHECK.due("25: the first minute", 35, x.quorumAt(0));
        x.proxy(2, 0, 0);
        CHECK.due("25: with one who speaks", 5, x.quorumAt(0));
        CHECK.due("25: for another item, where all are recused", 35, x.quorumAt(1));
        x.pass(20);
        CHECK.due("25: nothing was moved by it", 5, x.count(13));
        CHECK.due("25: nor the minute", 25, x.count(0));
        CHECK.due("25: nor who is present", 1, x.count(3));

        ProxyVotes y = Check.committee(1, 1, 1, 1);
        y.item(0, 0);
        Check.come(y, 0, 1);
        y.set(ProxyVotes.LATE, 10);
        y.set(ProxyVotes.LATE_QUORUM, 100);
        y.pass(10);
        CHECK.due("25: late already", NONE, y.quorumAt(0));
        y.later(600, 2, 1);
        y.later(610, 3, 1);
        CHECK.due("25: the last movement", 610, y.quorumAt(0));
        y.undo();
        CHECK.due("25: all movements are not enough", NONE, y.quorumAt(0));
        y.set(ProxyVotes.LATE, 600);
        y.pass(590);
        CHECK.due("25: just late", NONE, y.quorumAt(0));

        ProxyVotes z = Check.committee(1, 1);
        z.item(0, 0);
        z.set(ProxyVotes.LATE, 100);
        z.set(ProxyVotes.LATE_QUORUM, 100);
        z.later(100, 0, 1);
        z.later(101, 1, 1);
        CHECK.due("25: the late quorum is asked from LATE on", 101, z.quorumAt(0));
        z.set(ProxyVotes.LATE, 101);
        CHECK.due("25: not before", 100, z.quorumAt(0));
        z.open(0);
        ProxyVotes w = new ProxyVotes();
        w.item(0, 0);
        w.open(0);
        w.close();
        CHECK.due("25: an item that is closed", 0, w.quorumAt(0));
    }

    private static void promise25Turns() {
        ProxyVotes y = Check.committee(1, 1);
        y.item(0, 0);
        y.set(ProxyVotes.QUORUM, 100);
        y.set(ProxyVotes.LATE, 5);
        y.set(ProxyVotes.LATE_QUORUM, 100);
        y.come(0);
        for (int minute = 10; minute <= 28; minute++) {
            y.later(minute, 0, minute % 2);
        }
        y.later(29, 1, 1);
        CHECK.due("25: one is away when the other comes", NONE, y.quorumAt(0));
        y.undo();
        y.undo();
        y.later(30, 1, 1);
        y.later(28, 0, 1);
        CHECK.due("25: LATE, then twenty movements", 30, y.quorumAt(0));
        CHECK.due("25: as many wait", 20, y.count(13));
        ProxyVotes z = Check.committee(1, 1);
        z.item(0, 0);
        z.set(ProxyVotes.QUORUM, 100);
        for (int minute = 1; minute <= 20; minute++) {
            z.later(minute, 0, 1);
        }
        CHECK.due("25: twenty movements, then LATE", 240, z.quorumAt(0));
        z.set(ProxyVotes.LATE, 10);
        CHECK.due("25: LATE among them", 10, z.quorumAt(0));
        ProxyVotes w = new ProxyVotes();
        w.member(1, 1);
        w.member(1, 1);
        w.item(0, 2);
        w.proxy(1, NONE, 0);
        w.set(ProxyVotes.QUORUM, 51);
        w.later(5, 0, 1);
        w.later(6, 1, 1);
        CHECK.due("25: recused by the group", 6, w.quorumAt(0));
        ProxyVotes u = Check.committee(1);
        u.item(0, 0);
        for (int hours = 0; hours < 15; hours++) {
            u.pass(600);
        }
        u.later(9600, 0, 1);
        CHECK.due("25: also a minute that no pass() comes to", 9600, u.quorumAt(0));
    }

    private static void promise26BestHolder() {
        ProxyVotes y = new ProxyVotes();
        for (int member = 0; member < 12; member++) {
            y.member(1, member < 10 ? 0 : 1);
        }
        y.item(0, 0);
        y.item(0, 2);
        y.come(0);
        CHECK.due("26: twelve members", 0, y.bestHolder(11, 0));
        CHECK.due("26: recused by the group", NOT_POSSIBLE, y.bestHolder(11, 1));
        CHECK.due("26: another group", 0, y.bestHolder(9, 1));
        y.recuse(4, 0, 1);
        CHECK.due("26: recused by hand", NOT_POSSIBLE, y.bestHolder(4, 0));
        y.come(10);
        y.go(0);
        CHECK.due("26: the holder is recused by the group", NONE, y.bestHolder(9, 1));
        CHECK.due("26: for the other item not", 10, y.bestHolder(9, 0));
        ProxyVotes x = Check.committee(1, 1, 1, 1, 1, 1);
        x.item(0, 0);
        for (int far : FAR) {
            CHECK.due("26: no member " + far, NO_SUCH, x.bestHolder(far, 0));
            CHECK.due("26: no item " + far, NO_SUCH, x.bestHolder(0, far));
        }
        CHECK.due("26: no member 6", NO_SUCH, x.bestHolder(6, 0));
        CHECK.due("26: no item 1", NO_SUCH, x.bestHolder(0, 1));
        CHECK.due("26: nobody is present", NONE, x.bestHolder(0, 0));
        Check.come(x, 3, 4, 5);
        CHECK.due("26: present", NOT_POSSIBLE, x.bestHolder(3, 0));
        CHECK.due("26: the lowest one", 3, x.bestHolder(0, 0));
        x.proxy(1, NONE, 3);
        CHECK.due("26: who speaks for the fewest", 4, x.bestHolder(0, 0));
        CHECK.due("26: the own holder is no burden", 3, x.bestHolder(1, 0));
        x.recuse(4, 0, 1);
        CHECK.due("26: not a recused one", 5, x.bestHolder(0, 0));
        x.recuse(0, 0, 1);
        CHECK.due("26: recused", NOT_POSSIBLE, x.bestHolder(0, 0));
        x.recuse(0, 0, 0);
        x.proxy(0, 0, 5);
        CHECK.due("26: a holder for just this item", NOT_POSSIBLE, x.bestHolder(0, 0));
        x.item(0, 0);
        CHECK.due("26: not for the other item", 4, x.bestHolder(0, 1));
        x.item(0, 1);
        CHECK.due("26: recused by the group", NOT_POSSIBLE, x.bestHolder(0, 2));
        x.open(0);
        x.close();
        CHECK.due("26: an item that is closed", 3, x.bestHolder(2, 0));
    }

    private static void promise26Ways() {
        ProxyVotes x = Check.committee(1, 1, 1, 1, 1, 1);
        x.item(0, 0);
        x.set(ProxyVotes.LIMIT, 1);
        Check.come(x, 4, 5);
        x.proxy(0, NONE, 4);
        CHECK.due("26: no place behind a lower one", 5, x.bestHolder(3, 0));
        x.proxy(1, NONE, 5);
        CHECK.due("26: no place at all", NONE, x.bestHolder(3, 0));
        x.set(ProxyVotes.LIMIT, 0);
        CHECK.due("26: no places", NONE, x.bestHolder(3, 0));
        x.set(ProxyVotes.LIMIT, 2);
        CHECK.due("26: two places", 4, x.bestHolder(3, 0));
        x.proxy(2, NONE, 3);
        // Those whose ways go on through the member come along: 0, 2, 3 for 4, with two places.
        CHECK.due("26: lower ones come along", NONE, x.bestHolder(3, 0));
        x.set(ProxyVotes.LIMIT, 3);
        CHECK.due("26: three places", 4, x.bestHolder(3, 0));
        x.set(ProxyVotes.CHAIN, 0);
        x.proxy(1, NONE, NONE);
        CHECK.due("26: without chains nobody comes along", 5, x.bestHolder(3, 0));
        x.proxy(3, NONE, 0);
        CHECK.due("26: in place of the holder of now", 5, x.bestHolder(3, 0));
        x.set(ProxyVotes.LIMIT, 1);
        CHECK.due("26: a higher one is pushed out", 4, x.bestHolder(0, 0));
        x.proxy(3, NONE, 5);
        CHECK.due("26: also from the second", 4, x.bestHolder(0, 0));
        x.proxy(1, NONE, 4);
        x.go(5);
        CHECK.due("26: a lower number goes before", 4, x.bestHolder(0, 0));
        CHECK.due("26: a higher number finds no place", NONE, x.bestHolder(2, 0));
    }

    private static void nothingChanges() {
        ProxyVotes x = opened(0, 3, 2, 1, 4);
        x.proxy(3, NONE, 0);
        x.later(5, 3, 0);
        x.go(3);
        x.vote(1, 2);
        x.put(Check.packed("+A"));
        List<Integer> before = Check.all(x);
        for (int member = -1; member <= 4; member++) {
            for (int item = -1; item <= 1; item++) {
                x.wouldBe(item);
                x.decisive(item);
                x.needed(item, 0);
                x.needed(item, 1);
                x.power(member);
                x.quorumAt(item);
                x.bestHolder(member, item);
            }
        }
        CHECK.same("nothing changes", before, Check.all(x));
    }
}
