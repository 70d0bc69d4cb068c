import java.util.ArrayList;
import java.util.List;

/** Promises 31 to 33. */
public final class UndoTest {
    private static final int BAD_VALUE = -2, NOT_POSSIBLE = -5, NONE = -6;
    private static final Check CHECK = new Check();

    public static void main(String[] args) {
        promise31Undo();
        promise31EachChange();
        promise31WhatIsNone();
        promise32Save();
        promise33Restore();
        promise33NothingIsLeft();
        promise33Sums();
        CHECK.end();
    }

    /** A committee in which every call that is a change can be made by change(). */
    private static ProxyVotes session() {
        ProxyVotes x = Check.committee(3, 2, 4);
        x.item(0, 0);
        x.item(0, 0);
        x.item(0, 0);
        Check.come(x, 0, 1);
        x.open(1);
        x.close();
        x.open(0);
        return x;
    }

    private static final int CHANGES = 17;

    private static int change(ProxyVotes x, int number) {
        switch (number) {
            case 0:
                return x.set(ProxyVotes.LIMIT, 4);
            case 1:
                return x.member(1, 1);
            case 2:
                return x.item(1, 1);
            case 3:
                return x.chair(2);
            case 4:
                return x.come(2);
            case 5:
                return x.go(1);
            case 6:
                return x.later(9, 2, 1);
            case 7:
                return x.proxy(2, NONE, 0);
            case 8:
                return x.tell(2, 2, 1);
            case 9:
                return x.recuse(2, 2, 1);
            case 10:
                x.save(0);
                return x.restore(0);
            case 11:
                return x.vote(0, 1);
            case 12:
                return x.close();
            case 13:
                return x.cast(1);
            case 14:
                return x.pass(10);
            case 15:
                return x.open(2);
            default:
                x.wipe();
                x.put(Check.packed("m1;m2"));
                return x.carryOut();
        }
    }

    private static void promise31Undo() {
        ProxyVotes x = new ProxyVotes();
        CHECK.due("31: nothing to undo", NOT_POSSIBLE, x.undo());
        List<List<Integer>> states = new ArrayList<>();
        for (int number = 0; number < 10; number++) {
            states.add(Check.state(x));
            x.member(number % 9 + 1, 0);
            CHECK.due("31: at most six", Math.min(number + 1, 6), x.count(15));
        }
        for (int number = 9; number >= 4; number--) {
            CHECK.due("31: how many are left", number - 4, x.undo());
            CHECK.same("31: as it was", states.get(number), Check.state(x));
        }
        CHECK.due("31: the oldest ones were dropped", NOT_POSSIBLE, x.undo());
        CHECK.due("31: nothing changes", 4, x.count(1));
        CHECK.due("31: go on", 4, x.member(9, 0));
        CHECK.due("31: one", 1, x.count(15));
        CHECK.due("31: undone", 0, x.undo());
        CHECK.due("31: four", 4, x.count(1));
        for (int round = 0; round < 20; round++) {
            x.set(ProxyVotes.QUORUM, round);
            x.set(ProxyVotes.QUORUM, 100);
            CHECK.due("31: undo and go on", Math.min(round + 1, 5), x.undo());
            CHECK.due("31: undo and go on", round, x.count(16));
        }
    }

    private static void promise31EachChange() {
        for (int number = 0; number < CHANGES; number++) {
            ProxyVotes x = session();
            if (number == 15) {
                x.close();
            }
            List<Integer> before = Check.state(x);
            int answer = change(x, number);
            CHECK.that("31: change " + number + " answered " + answer, answer >= 0 || answer == NONE);
            CHECK.due("31: recorded", 6, x.count(15));
            if (number != 10) {
                CHECK.that("31: something is different by " + number, !before.equals(Check.state(x)));
            }
            CHECK.due("31: undone", 5, x.undo());
            CHECK.same("31: undone, " + number, before, Check.state(x));
        }
        // Each counts one.
        ProxyVotes y = new ProxyVotes();
        y.member(1, 0);
        y.member(1, 0);
        y.item(0, 0);
        CHECK.due("31: three", 3, y.count(15));
        y.come(0);
        y.open(0);
        CHECK.due("31: five", 5, y.count(15));
        y.undo();
        y.undo();
        y.undo();
        CHECK.due("31: two", 2, y.count(15));
    }

    private static void promise31WhatIsNone() {
        ProxyVotes x = Check.committee(1);
        x.put(Check.packed("+A"));
        x.put(Check.packed("x"));
        x.carryOut();
        x.wipe();
        x.save(0);
        x.fault();
        x.come(5);
        x.set(0, 101);
        x.restore(1);
        x.undo();
        CHECK.due("31: none of these", 0, x.count(15));
        CHECK.due("31: undo can't be undone", NOT_POSSIBLE, x.undo());
        ProxyVotes y = Check.committee(1);
        y.put(Check.packed("+A"));
        y.save(0);
        y.undo();
        CHECK.due("31: the pad stays", 2, y.count(14));
        CHECK.due("31: the slots stay", 0, y.restore(0));
        CHECK.due("31: what was saved", 1, y.count(1));
    }

    private static void promise32Save() {
        ProxyVotes x = Check.committee(1, 2);
        int[] wrong = {-1, 2, NONE, Integer.MAX_VALUE, Integer.MIN_VALUE};
        for (int slot : wrong) {
            CHECK.due("32: save(" + slot + ")", BAD_VALUE, x.save(slot));
            CHECK.due("33: restore(" + slot + ")", BAD_VALUE, x.restore(slot));
        }
        x.pass(17);
        CHECK.due("32: the minute", 17, x.save(0));
        CHECK.due("32: no change", 3, x.count(15));
        CHECK.due("32: the other one is empty", NOT_POSSIBLE, x.restore(1));
        x.pass(3);
        CHECK.due("32: the minute", 20, x.save(1));
        x.pass(3);
        CHECK.due("32: overwrites", 23, x.save(0));
        CHECK.due("32: the first", 23, x.restore(0));
        CHECK.due("32: the second", 20, x.restore(1));
        CHECK.due("32: the first", 23, x.restore(0));
    }

    private static void promise33NothingIsLeft() {
        ProxyVotes x = new ProxyVotes();
        x.save(0);
        x.member(1, 3);
        x.member(2, 2);
        x.item(0, 8);
        x.proxy(1, NONE, 0);
        x.proxy(1, 0, 0);
        x.tell(1, 0, 2);
        x.recuse(1, 0, 1);
        x.chair(1);
        x.later(3, 0, 1);
        x.come(1);
        x.open(0);
        x.go(1);
        x.close();
        x.set(ProxyVotes.QUORUM, 0);
        x.open(0);
        x.close();
        x.come(0);
        x.save(1);
        List<Integer> late = Check.state(x);
        x.restore(0);
        CHECK.due("33: the settings", 50, x.count(16));
        CHECK.due("33: no movement waits", 0, x.count(13));
        x.member(3, 1);
        x.member(4, 0);
        x.item(2, 0);
        int[] item = {2, 0, 0, 0, 0, 0, 0, 7, 0, NONE, 0, 0};
        for (int what = 0; what < item.length; what++) {
            CHECK.due("33: nothing is left of an item, " + what, item[what], x.ofItem(0, what));
        }
        int[] member = {4, 0, 0, NONE, 0, 0};
        for (int what = 0; what < member.length; what++) {
            CHECK.due("33: nothing is left of a member, " + what, member[what], x.ofMember(1, what));
        }
        int[] both = {NONE, NONE, NONE, 4, NONE, 0, 0};
        for (int what = 0; what < both.length; what++) {
            CHECK.due("33: nothing is left of both, " + what, both[what], x.at(1, 0, what));
        }
        CHECK.due("33: the chair", 0, x.count(5));
        x.restore(1);
        CHECK.same("33: all is back", late, Check.state(x));
        CHECK.due("33: the group", 3, x.ofMember(0, 1));
    }

    private static void promise33Sums() {
        ProxyVotes x = Check.committee(1, 2);
        x.item(0, 0);
        Check.come(x, 0, 1);
        x.open(0);
        x.vote(0, 1);
        x.close();
        x.save(0);
        x.undo();
        x.vote(1, 2);
        x.close();
        CHECK.same("33: the sums", Check.row(0, 1, 2, 0, 0, 0), Check.sums(x, 0));
        x.restore(0);
        CHECK.same("33: the sums of then", Check.row(0, 1, 0, 2, 0, 0), Check.sums(x, 0));
        x.undo();
        CHECK.same("31: the sums", Check.row(0, 1, 2, 0, 0, 0), Check.sums(x, 0));
    }

    private static void promise33Restore() {
        ProxyVotes x = session();
        x.later(50, 2, 1);
        x.vote(0, 1);
        x.proxy(2, 1, 0);
        x.recuse(1, 2, 1);
        x.tell(2, 2, 0);
        List<Integer> before = Check.state(x);
        x.save(1);
        for (int number = 0; number < 10; number++) {
            change(x, number);
        }
        x.close();
        x.cast(2);
        x.pass(60);
        x.put(Check.packed("+A;-A"));
        List<Integer> late = Check.state(x);
        CHECK.due("33: the minute", 0, x.restore(1));
        CHECK.same("33: as it was", before, Check.state(x));
        CHECK.due("33: the pad stays", 5, x.count(14));
        CHECK.due("33: a change", 6, x.count(15));
        CHECK.due("33: undone", 5, x.undo());
        CHECK.same("33: as it was before", late, Check.state(x));
        x.restore(1);
        x.pass(50);
        CHECK.due("33: the movement came back", 7, x.count(3));
        CHECK.due("33: the slot keeps it", 0, x.restore(1));
        CHECK.same("33: as it was", before, Check.state(x));
        x.restore(1);
        CHECK.due("33: to the same is a change, too", 6, x.count(15));
        ProxyVotes y = new ProxyVotes();
        y.save(0);
        y.member(1, 0);
        y.restore(0);
        CHECK.due("33: nobody", 0, y.count(1));
        CHECK.due("33: no chair", NONE, y.count(5));
        CHECK.due("33: history", 2, y.count(15));
    }
}
