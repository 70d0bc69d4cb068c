/** Promises 1 to 5. */
public final class SettingUpTest {
    private static final int NO_SUCH = -1, BAD_VALUE = -2, TOO_MANY = -4, NOT_POSSIBLE = -5, NONE = -6;
    private static final Check CHECK = new Check();

    public static void main(String[] args) {
        promise1NewObject();
        promise2Set();
        promise3Member();
        promise4Item();
        promise5Chair();
        CHECK.end();
    }

    private static void promise1NewObject() {
        ProxyVotes x = new ProxyVotes();
        int[] due = {0, 0, 0, 0, NONE, NONE, NONE, 0, 0, 0, 0, 0, 0, 0, 0, 0, 50, 34, 240, 2, 1, 1};
        for (int what = 0; what < due.length; what++) {
            CHECK.due("1: count(" + what + ")", due[what], x.count(what));
        }
        CHECK.due("1: fault", 0, x.fault());
        CHECK.due("1: undo", NOT_POSSIBLE, x.undo());
        CHECK.due("1: restore(0)", NOT_POSSIBLE, x.restore(0));
        CHECK.due("1: restore(1)", NOT_POSSIBLE, x.restore(1));
        x.member(1, 0);
        CHECK.due("1: objects have nothing in common", 0, new ProxyVotes().count(1));
    }

    private static void promise2Set() {
        int[] first = {50, 34, 240, 2, 1, 1};
        int[] highest = {100, 100, 600, 6, 1, 1};
        ProxyVotes x = new ProxyVotes();
        for (int setting = 0; setting < 6; setting++) {
            CHECK.due("2: set to the highest", first[setting], x.set(setting, highest[setting]));
            CHECK.due("2: set above", BAD_VALUE, x.set(setting, highest[setting] + 1));
            CHECK.due("2: set below", BAD_VALUE, x.set(setting, -1));
            CHECK.due("2: set far above", BAD_VALUE, x.set(setting, Integer.MAX_VALUE));
            CHECK.due("2: set far below", BAD_VALUE, x.set(setting, Integer.MIN_VALUE));
            CHECK.due("2: as it was set", highest[setting], x.count(16 + setting));
            CHECK.due("2: set to the lowest", highest[setting], x.set(setting, 0));
            CHECK.due("2: set again", 0, x.set(setting, 1));
            CHECK.due("2: the setting", 1, x.count(16 + setting));
        }
        CHECK.due("2: no setting 6", BAD_VALUE, x.set(6, 0));
        CHECK.due("2: no setting -1", BAD_VALUE, x.set(-1, 0));
        CHECK.due("2: no setting NONE", BAD_VALUE, x.set(NONE, 0));
        CHECK.due("2: no setting", BAD_VALUE, x.set(Integer.MIN_VALUE, 0));
        CHECK.due("2: no setting", BAD_VALUE, x.set(Integer.MAX_VALUE, 0));
        ProxyVotes y = new ProxyVotes();
        CHECK.due("2: set to the same", 50, y.set(ProxyVotes.QUORUM, 50));
        CHECK.due("2: is a change all the same", 1, y.count(15));
        y.set(ProxyVotes.QUORUM, 101);
        CHECK.due("2: no change", 1, y.count(15));
    }

    private static void promise3Member() {
        ProxyVotes x = new ProxyVotes();
        CHECK.due("3: weight 0", BAD_VALUE, x.member(0, 0));
        CHECK.due("3: weight 10", BAD_VALUE, x.member(10, 0));
        CHECK.due("3: group -1", BAD_VALUE, x.member(1, -1));
        CHECK.due("3: group 4", BAD_VALUE, x.member(1, 4));
        CHECK.due("3: far off", BAD_VALUE, x.member(Integer.MIN_VALUE, Integer.MAX_VALUE));
        CHECK.due("3: none yet", 0, x.count(1));
        for (int member = 0; member < 12; member++) {
            CHECK.due("3: the number", member, x.member(member % 9 + 1, member % 4));
        }
        CHECK.due("3: a thirteenth", TOO_MANY, x.member(1, 0));
        CHECK.due("3: bad before too many", BAD_VALUE, x.member(0, 0));
        CHECK.due("3: bad before too many", BAD_VALUE, x.member(1, 4));
        CHECK.due("3: twelve", 12, x.count(1));
        for (int member = 0; member < 12; member++) {
            CHECK.due("3: the weight", member % 9 + 1, x.ofMember(member, 0));
            CHECK.due("3: the group", member % 4, x.ofMember(member, 1));
            CHECK.due("3: absent", 0, x.ofMember(member, 2));
            CHECK.due("3: no holder", NONE, x.ofMember(member, 3));
        }
        CHECK.due("3: a change each", 6, x.count(15));
        ProxyVotes y = new ProxyVotes();
        y.item(0, 0);
        y.member(1, 0);
        y.member(1, 0);
        y.come(1);
        y.open(0);
        y.vote(1, 1);
        y.proxy(1, NONE, 0);
        for (int change = 0; change < 5; change++) {
            y.undo();
        }
        CHECK.due("3: one is left", 1, y.count(1));
        y.member(2, 3);
        CHECK.due("3: nothing is left of one that was undone", NONE, y.at(1, 0, 1));
        CHECK.due("3: nothing is left of one that was undone", NONE, y.ofMember(1, 3));
        CHECK.due("3: nothing is left of one that was undone", 0, y.ofMember(1, 2));
        CHECK.due("3: the weight", 2, y.ofMember(1, 0));
    }

    private static void promise4Item() {
        ProxyVotes x = new ProxyVotes();
        CHECK.due("4: kind -1", BAD_VALUE, x.item(-1, 0));
        CHECK.due("4: kind 3", BAD_VALUE, x.item(3, 0));
        CHECK.due("4: groups -1", BAD_VALUE, x.item(0, -1));
        CHECK.due("4: groups 16", BAD_VALUE, x.item(0, 16));
        CHECK.due("4: far off", BAD_VALUE, x.item(Integer.MAX_VALUE, Integer.MIN_VALUE));
        for (int item = 0; item < 12; item++) {
            CHECK.due("4: the number", item, x.item(item % 3, 15 - item));
        }
        CHECK.due("4: a thirteenth", TOO_MANY, x.item(0, 0));
        CHECK.due("4: bad before too many", BAD_VALUE, x.item(3, 0));
        CHECK.due("4: bad before too many", BAD_VALUE, x.item(0, 16));
        for (int item = 0; item < 12; item++) {
            CHECK.due("4: the kind", item % 3, x.ofItem(item, 0));
            CHECK.due("4: the groups", 15 - item, x.ofItem(item, 1));
            CHECK.due("4: it waits", ProxyVotes.WAITING, x.ofItem(item, 2));
            CHECK.due("4: no breaker", NONE, x.ofItem(item, 9));
            CHECK.due("4: not put off", 0, x.ofItem(item, 10));
        }
        CHECK.due("4: a change each", 6, x.count(15));
        ProxyVotes y = Check.committee(1, 1);
        y.item(0, 0);
        y.proxy(0, 0, 1);
        y.tell(0, 0, 1);
        y.recuse(1, 0, 1);
        y.undo();
        y.undo();
        y.undo();
        y.undo();
        y.item(0, 0);
        CHECK.due("4: nothing is left of one that was undone", NONE, y.at(0, 0, 4));
        CHECK.due("4: nothing is left of one that was undone", NONE, y.at(0, 0, 2));
        CHECK.due("4: nothing is left of one that was undone", 0, y.at(1, 0, 5));
    }

    private static void promise5Chair() {
        ProxyVotes x = new ProxyVotes();
        CHECK.due("5: no member", NO_SUCH, x.chair(0));
        x.member(1, 0);
        CHECK.due("5: the first one at first", 0, x.count(5));
        x.member(1, 0);
        x.member(1, 0);
        CHECK.due("5: still the first one", 0, x.count(5));
        CHECK.due("5: the one before", 0, x.chair(2));
        CHECK.due("5: the one before", 2, x.chair(1));
        CHECK.due("5: itself", 1, x.chair(1));
        CHECK.due("5: no such", NO_SUCH, x.chair(3));
        CHECK.due("5: no such", NO_SUCH, x.chair(-1));
        CHECK.due("5: no such", NO_SUCH, x.chair(NONE));
        CHECK.due("5: no such", NO_SUCH, x.chair(Integer.MAX_VALUE));
        CHECK.due("5: the chair", 1, x.count(5));
        CHECK.due("5: changes", 6, x.count(15));
        CHECK.due("5: nobody present", NONE, x.count(6));
        Check.come(x, 2);
        CHECK.due("5: the lowest one present", 2, x.count(6));
        Check.come(x, 0);
        CHECK.due("5: the lowest one present", 0, x.count(6));
        Check.come(x, 1);
        CHECK.due("5: the chair is present", 1, x.count(6));
    }
}
