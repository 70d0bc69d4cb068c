import java.util.List;

/** Promises 12 to 16. */
public final class VotesTest {
    private static final int NO_SUCH = -1, BAD_VALUE = -2, NOT_POSSIBLE = -5, NONE = -6;
    private static final int[] NOTHING = {-1, 3, 12, 32, NONE, Integer.MAX_VALUE, Integer.MIN_VALUE};
    private static final Check CHECK = new Check();

    public static void main(String[] args) {
        promise12Open();
        promise12Quorum();
        promise13Vote();
        promise14Close();
        promise14Kinds();
        promise14PutOff();
        promise15Cast();
        promise16Pass();
        CHECK.end();
    }

    private static void promise12Open() {
        ProxyVotes x = Check.committee(3, 2, 4);
        CHECK.due("12: no item", NO_SUCH, x.open(0));
        x.item(0, 0);
        x.item(0, 0);
        for (int item : NOTHING) {
            CHECK.due("12: open(" + item + ")", NO_SUCH, x.open(item));
        }
        CHECK.due("12: no quorum", NOT_POSSIBLE, x.open(0));
        x.come(2);
        CHECK.due("12: 4 of 9", NOT_POSSIBLE, x.open(0));
        CHECK.due("12: changes", 6, x.count(15));
        x.proxy(1, 0, 2);
        CHECK.due("12: for the other one 4 of 9", NOT_POSSIBLE, x.open(1));
        CHECK.due("12: 6 of 9", 6, x.open(0));
        CHECK.due("12: it is open", ProxyVotes.OPEN, x.ofItem(0, 2));
        CHECK.due("12: it is open", 0, x.count(4));
        CHECK.due("12: open already", NOT_POSSIBLE, x.open(0));
        x.come(1);
        CHECK.due("12: another one is open", NOT_POSSIBLE, x.open(1));
        x.close();
        CHECK.due("12: tied", NOT_POSSIBLE, x.open(0));
        CHECK.due("12: the other one now", 6, x.open(1));
        x.vote(1, 1);
        x.close();
        CHECK.due("12: carried", NOT_POSSIBLE, x.open(1));
        x.cast(2);
        CHECK.due("12: lost", NOT_POSSIBLE, x.open(0));
    }

    private static void promise12Quorum() {
        ProxyVotes x = Check.committee(5, 5);
        x.item(0, 0);
        x.come(0);
        CHECK.due("12: just the half", 5, x.open(0));
        x.undo();
        x.set(ProxyVotes.QUORUM, 51);
        CHECK.due("12: a little less", NOT_POSSIBLE, x.open(0));
        x.set(ProxyVotes.LATE_QUORUM, 50);
        x.pass(239);
        CHECK.due("12: before LATE", NOT_POSSIBLE, x.open(0));
        x.pass(1);
        CHECK.due("12: from LATE on", 5, x.open(0));
        x.undo();
        x.set(ProxyVotes.LATE_QUORUM, 51);
        CHECK.due("12: the late one is asked", NOT_POSSIBLE, x.open(0));
        x.set(ProxyVotes.QUORUM, 0);
        CHECK.due("12: the late one alone", NOT_POSSIBLE, x.open(0));
        x.set(ProxyVotes.LATE, 241);
        CHECK.due("12: not late any more", 5, x.open(0));

        ProxyVotes y = new ProxyVotes();
        y.member(5, 0);
        y.member(2, 1);
        y.member(1, 1);
        y.item(0, 2);
        y.proxy(2, NONE, 0);
        Check.come(y, 0, 1);
        CHECK.due("12: recused ones who are present, not those absent", 7, y.open(0));

        ProxyVotes z = new ProxyVotes();
        z.item(0, 0);
        CHECK.due("12: nobody of nobody", 0, z.open(0));
        ProxyVotes w = Check.committee(1);
        w.item(0, 0);
        w.set(ProxyVotes.QUORUM, 0);
        CHECK.due("12: no quorum is asked", 0, w.open(0));
        ProxyVotes v = Check.committee(1, 1);
        v.item(0, 0);
        v.set(ProxyVotes.QUORUM, 100);
        v.come(0);
        CHECK.due("12: all are asked", NOT_POSSIBLE, v.open(0));
        v.proxy(1, NONE, 0);
        CHECK.due("12: all are there", 2, v.open(0));
        ProxyVotes u = Check.committee(9, 9, 9, 9, 9, 5, 9, 9, 9, 9, 9, 6);
        u.item(0, 0);
        Check.come(u, 0, 1, 2, 3, 4, 5);
        CHECK.due("12: 50 of 101", NOT_POSSIBLE, u.open(0));
        u.go(5);
        u.come(11);
        CHECK.due("12: 51 of 101", 51, u.open(0));
    }

    private static void promise13Vote() {
        ProxyVotes x = Check.committee(1, 1, 1);
        x.item(0, 0);
        Check.come(x, 0, 1);
        CHECK.due("13: nothing is open", NOT_POSSIBLE, x.vote(0, 1));
        x.open(0);
        for (int member : NOTHING) {
            CHECK.due("13: vote(" + member + ", ..)", NO_SUCH, x.vote(member, 5));
            CHECK.due("13: choice " + member, BAD_VALUE, x.vote(0, member));
            CHECK.due("13: bad before not possible", BAD_VALUE, x.vote(2, member));
        }
        CHECK.due("13: absent", NOT_POSSIBLE, x.vote(2, 1));
        CHECK.due("13: changes", 6, x.count(15));
        CHECK.due("13: for", NONE, x.vote(0, 1));
        CHECK.due("13: against", 1, x.vote(0, 2));
        CHECK.due("13: abstains", 2, x.vote(0, 0));
        CHECK.due("13: against", 0, x.vote(0, 2));
        CHECK.due("13: the last one", 2, x.at(0, 0, 1));
        CHECK.same("13: counted once", Check.row(0, 0, 1, 1, 1, 0), Check.sums(x, 0));
        x.recuse(1, 0, 1);
        CHECK.due("13: recused", NOT_POSSIBLE, x.vote(1, 1));
        x.recuse(1, 0, 0);
        CHECK.due("13: not any more", NONE, x.vote(1, 2));
        CHECK.due("13: the vote of this member", 2, x.vote(1, 1));
        x.go(0);
        CHECK.due("13: the vote stands", ProxyVotes.AGAINST, x.at(0, 0, 3));
        CHECK.due("13: but no other one", NOT_POSSIBLE, x.vote(0, 1));
        x.come(0);
        CHECK.due("13: back again", 2, x.vote(0, 1));
        x.close();
        CHECK.due("13: closed", NOT_POSSIBLE, x.vote(0, 1));
        CHECK.due("13: no such first", NO_SUCH, x.vote(3, 1));
        CHECK.due("13: bad first", BAD_VALUE, x.vote(0, 3));

        ProxyVotes y = new ProxyVotes();
        y.member(1, 3);
        y.item(0, 8);
        y.come(0);
        y.open(0);
        CHECK.due("13: recused by a group", NOT_POSSIBLE, y.vote(0, 1));
    }

    private static void promise14Close() {
        ProxyVotes x = Check.committee(3, 2, 4);
        CHECK.due("14: nothing is open", NOT_POSSIBLE, x.close());
        x.item(0, 0);
        Check.come(x, 0, 1);
        CHECK.due("14: nothing is open", NOT_POSSIBLE, x.close());
        x.open(0);
        x.vote(0, 1);
        x.vote(1, 2);
        CHECK.due("14: a change", 6, x.count(15));
        CHECK.due("14: carried", ProxyVotes.CARRIED, x.close());
        CHECK.due("14: nothing is open", NOT_POSSIBLE, x.close());
        CHECK.same("14: the sums", Check.row(0, 3, 2, 0, 4, 0), Check.sums(x, 0));
        x.go(0);
        Check.come(x, 2);
        CHECK.same("14: as they were", Check.row(0, 3, 2, 0, 4, 0), Check.sums(x, 0));
        CHECK.due("14: at() tells how things are now", ProxyVotes.SILENT, x.at(2, 0, 3));
        CHECK.due("14: the votes stand", 1, x.at(0, 0, 1));
        CHECK.due("14: the votes stand", 1, x.ofMember(0, 4));
    }

    /** Closes an item of a kind with these weights for it, against it, and abstaining. */
    private static int closed(int kind, int casting, int inFavour, int against, int abstained) {
        ProxyVotes x = Check.committee(Math.max(inFavour, 1), Math.max(against, 1), Math.max(abstained, 1));
        x.item(kind, 0);
        x.set(ProxyVotes.CASTING, casting);
        Check.come(x, 0, 1, 2);
        x.open(0);
        if (inFavour > 0) {
            x.vote(0, 1);
        }
        if (against > 0) {
            x.vote(1, 2);
        }
        if (abstained > 0) {
            x.vote(2, 0);
        }
        int would = x.wouldBe(0);
        int state = x.close();
        CHECK.due("21: as close() told", state, would);
        return state;
    }

    private static void promise14Kinds() {
        CHECK.due("14: 3 to 2", 3, closed(0, 1, 3, 2, 0));
        CHECK.due("14: 2 to 3", 4, closed(0, 1, 2, 3, 0));
        CHECK.due("14: 2 to 2", 2, closed(0, 1, 2, 2, 0));
        CHECK.due("14: nobody", 2, closed(0, 1, 0, 0, 9));
        CHECK.due("14: no casting", 4, closed(0, 0, 2, 2, 0));
        CHECK.due("14: no casting, nobody", 4, closed(0, 0, 0, 0, 0));
        CHECK.due("14: no casting, 3 to 2", 3, closed(0, 0, 3, 2, 0));
        CHECK.due("14: those who abstain do not count", 3, closed(0, 1, 1, 0, 9));
        CHECK.due("14: just two thirds", 3, closed(1, 1, 6, 3, 0));
        CHECK.due("14: less than two thirds", 4, closed(1, 1, 7, 4, 0));
        CHECK.due("14: more than two thirds", 3, closed(1, 1, 7, 3, 9));
        CHECK.due("14: nobody for it", 4, closed(1, 1, 0, 0, 0));
        CHECK.due("14: against it", 4, closed(1, 1, 0, 1, 0));
        CHECK.due("14: half is not tied", 4, closed(1, 1, 2, 2, 0));
        CHECK.due("14: one is enough", 3, closed(1, 0, 1, 0, 9));
        CHECK.due("14: all who are heard", 3, closed(2, 1, 1, 0, 0));
        CHECK.due("14: one abstains", 4, closed(2, 1, 9, 0, 1));
        CHECK.due("14: one is against", 4, closed(2, 1, 9, 1, 0));
        CHECK.due("14: nobody for it", 4, closed(2, 1, 0, 0, 0));
    }

    private static void promise14PutOff() {
        ProxyVotes x = Check.committee(3, 2, 4);
        x.item(0, 0);
        Check.come(x, 0, 1);
        x.tell(2, 0, 1);
        x.open(0);
        x.vote(0, 1);
        x.vote(1, 2);
        x.go(0);
        CHECK.due("14: no quorum", ProxyVotes.WAITING, x.close());
        CHECK.due("14: it waits", ProxyVotes.WAITING, x.ofItem(0, 2));
        CHECK.due("14: nothing is open", NONE, x.count(4));
        CHECK.due("14: put off", 1, x.ofItem(0, 10));
        CHECK.due("14: no votes", NONE, x.at(0, 0, 1));
        CHECK.due("14: no votes", NONE, x.at(1, 0, 1));
        CHECK.due("14: no votes", 0, x.ofMember(1, 4));
        CHECK.due("14: told choices stay", 1, x.at(2, 0, 2));
        CHECK.same("14: as things are", Check.row(0, 0, 0, 2, 7, 0), Check.sums(x, 0));
        x.come(0);
        x.open(0);
        x.go(0);
        x.go(1);
        x.close();
        CHECK.due("14: put off again", 2, x.ofItem(0, 10));
        x.undo();
        CHECK.due("14: undone", 1, x.ofItem(0, 10));
        x.pass(240);
        x.come(2);
        CHECK.due("14: the late quorum is there", ProxyVotes.TIED, x.close());
        List<Integer> due = Check.row(0, 0, 0, 4, 5, 0);
        CHECK.same("14: counted", due, Check.sums(x, 0));
    }

    private static void promise15Cast() {
        ProxyVotes x = Check.committee(1, 1, 1);
        x.item(0, 0);
        x.item(0, 0);
        x.item(0, 1);
        int[] wrong = {0, 3, -1, NONE, Integer.MAX_VALUE, Integer.MIN_VALUE};
        for (int choice : wrong) {
            CHECK.due("15: cast(" + choice + ")", BAD_VALUE, x.cast(choice));
        }
        Check.come(x, 0, 1, 2);
        CHECK.due("15: no tie", NOT_POSSIBLE, x.cast(1));
        x.open(1);
        x.close();
        x.open(0);
        x.close();
        x.open(2);
        CHECK.due("15: bad first", BAD_VALUE, x.cast(0));
        x.set(ProxyVotes.CASTING, 0);
        x.go(0);
        x.go(1);
        x.go(2);
        CHECK.due("15: nobody is present", NOT_POSSIBLE, x.cast(1));
        Check.come(x, 1);
        CHECK.due("15: the lowest one, whatever CASTING is", ProxyVotes.LOST, x.cast(2));
        CHECK.due("15: lost", ProxyVotes.LOST, x.ofItem(0, 2));
        CHECK.due("15: the other one is tied", ProxyVotes.TIED, x.ofItem(1, 2));
        CHECK.due("15: by whom", 1, x.ofItem(0, 9));
        CHECK.due("15: by whom", 1, x.ofMember(1, 5));
        CHECK.same("15: the sums stay", Check.row(0, 0, 0, 3, 0, 0), Check.sums(x, 0));
        x.chair(2);
        Check.come(x, 0, 2);
        CHECK.due("15: carried", ProxyVotes.CARRIED, x.cast(1));
        CHECK.due("15: by the chair", 2, x.ofItem(1, 9));
        CHECK.due("15: by the chair", 1, x.ofMember(2, 5));
        CHECK.due("15: not by the others", 0, x.ofMember(0, 5));
        CHECK.due("15: no tie is left", NOT_POSSIBLE, x.cast(1));
        x.set(ProxyVotes.CASTING, 1);
        x.close();
        CHECK.due("15: tied", ProxyVotes.TIED, x.ofItem(2, 2));
        CHECK.due("15: recused", NOT_POSSIBLE, x.cast(1));
        CHECK.due("15: still tied", ProxyVotes.TIED, x.ofItem(2, 2));

        ProxyVotes y = Check.committee(1, 1);
        y.item(0, 0);
        y.recuse(0, 0, 1);
        Check.come(y, 0, 1);
        y.open(0);
        y.close();
        CHECK.due("15: recused by hand", NOT_POSSIBLE, y.cast(1));
        CHECK.due("15: nothing changed", 6, y.count(15));
        y.go(0);
        CHECK.due("15: another one may", ProxyVotes.CARRIED, y.cast(1));
        ProxyVotes z = Check.committee(1);
        z.come(0);
        for (int item = 0; item < 3; item++) {
            z.item(0, 0);
            z.open(item);
            z.close();
            z.cast(1);
        }
        CHECK.due("15: three ties", 3, z.ofMember(0, 5));
        z.undo();
        CHECK.due("15: two ties", 2, z.ofMember(0, 5));
    }

    private static void promise16Pass() {
        ProxyVotes x = new ProxyVotes();
        int[] wrong = {0, -1, 601, NONE, Integer.MAX_VALUE, Integer.MIN_VALUE};
        for (int minutes : wrong) {
            CHECK.due("16: pass(" + minutes + ")", BAD_VALUE, x.pass(minutes));
        }
        CHECK.due("16: no change", 0, x.count(15));
        CHECK.due("16: one minute", 1, x.pass(1));
        CHECK.due("16: a change", 1, x.count(15));
        for (int minute = 601; minute <= 8401; minute += 600) {
            CHECK.due("16: ten hours", minute, x.pass(600));
        }
        CHECK.due("16: above 9000", NOT_POSSIBLE, x.pass(600));
        CHECK.due("16: bad first", BAD_VALUE, x.pass(601));
        CHECK.due("16: just 9000", 9000, x.pass(599));
        CHECK.due("16: above 9000", NOT_POSSIBLE, x.pass(1));
        CHECK.due("16: the minute", 9000, x.count(0));
        x.member(1, 0);
        CHECK.due("16: it waits for ever", 1, x.later(9001, 0, 1));
        CHECK.due("16: above 9000", NOT_POSSIBLE, x.pass(1));
        CHECK.due("16: it has not come", 0, x.count(3));
    }
}
