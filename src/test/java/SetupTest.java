/** Promises 1 to 6: a new object, school, gone, judge, kin, rooms. */
final class SetupTest {
    private static final Due due = new Due();

    public static void main(String[] args) {
        newObject();
        schools();
        gone();
        judges();
        kin();
        rooms();
        due.finish();
    }

    private static void newObject() {
        MockTrials x = new MockTrials();
        for (int what = 0; what <= 10; what++) {
            due.is("new: count(" + what + ")", x.count(what), 0);
        }
        due.is("new: status", x.status(), 0);
        due.is("new: fault", x.fault(), -1);
        due.is("new: at(0, 0)", x.at(0, 0), -1);
        due.is("new: trial(0, -1, 0)", x.trial(0, -1, 0), -1);
        due.is("new: of(0, 0, 0)", x.of(0, 0, 0), -1000000);
        due.is("new: span(0, 0)", x.span(0, 0), -1);
        due.is("new: met(0, 0)", x.met(0, 0), -1);
        due.is("new: implied(0)", x.implied(0), 0);
        due.is("new: object(0, 0, 0)", x.object(0, 0, 0, false), -1);
        due.is("new: rooms(1)", x.rooms(1), 7);
    }

    private static void schools() {
        MockTrials x = new MockTrials();
        for (int i = 0; i < 14; i++) {
            due.is("school " + i, x.school(), i);
        }
        due.is("school 14", x.school(), -5);
        due.is("status of it", x.status(), -5);
        x.gone(0, true);
        due.is("a gone one makes no room", x.school(), -5);
        due.is("schools", x.count(0), 14);
    }

    private static void gone() {
        MockTrials x = Due.with(2, 0);
        due.is("a school is there at first", x.count(1), 2);
        due.is("gone(1)", x.gone(1, true), 0);
        due.is("one is there", x.count(1), 1);
        due.is("gone again", x.gone(1, true), 0);
        due.is("still one", x.count(1), 1);
        due.is("there again", x.gone(1, false), 0);
        due.is("two are there", x.count(1), 2);
        due.is("gone(2)", x.gone(2, true), -2);
        due.is("gone(-1)", x.gone(-1, true), -2);
        due.is("gone(least)", x.gone(Integer.MIN_VALUE, false), -2);
        due.is("gone(greatest)", x.gone(Integer.MAX_VALUE, false), -2);
        due.is("status", x.status(), -2);
        due.is("two are there still", x.count(1), 2);
    }

    private static void judges() {
        MockTrials x = new MockTrials();
        for (int i = 0; i < 20; i++) {
            due.is("judge " + i, x.judge(), i);
        }
        due.is("judge 20", x.judge(), -5);
        due.is("status of it", x.status(), -5);
        due.is("judges", x.count(2), 20);
    }

    private static void kin() {
        MockTrials x = Due.with(14, 5);
        due.is("kin(5, 0)", x.kin(5, 0), -2);
        due.is("kin(0, 14)", x.kin(0, 14), -2);
        due.is("kin(-1, 0)", x.kin(-1, 0), -2);
        due.is("kin(0, -1)", x.kin(0, -1), -2);
        int many = 0;
        for (int judge = 0; judge < 5 && many < 60; judge++) {
            for (int school = 0; school < 14 && many < 60; school++) {
                many++;
                due.is("kin(" + judge + ", " + school + ")", x.kin(judge, school), many);
            }
        }
        due.is("the 61st", x.kin(4, 13), -5);
        due.is("status", x.status(), -5);
        due.is("told again, without room", x.kin(0, 0), 60);
        due.is("status", x.status(), 0);
        due.is("no such one ahead of no room", x.kin(5, 13), -2);
        due.is("count", x.count(3), 60);
        kinSitsElsewhere();
    }

    private static void kinSitsElsewhere() {
        MockTrials x = Due.with(4, 4);
        x.kin(0, 1);
        x.kin(1, 0);
        x.kin(3, 2);
        x.pair(0);
        due.is("first trial's first judge", x.trial(0, 0, 3), 2);
        due.is("first trial's second judge", x.trial(0, 0, 4), 3);
        due.is("second trial's first judge", x.trial(0, 1, 3), 0);
        due.is("second trial's second judge", x.trial(0, 1, 4), 1);
    }

    private static void rooms() {
        MockTrials x = Due.with(4, 0);
        due.is("rooms(0)", x.rooms(0), -1);
        due.is("status", x.status(), -1);
        due.is("rooms(8)", x.rooms(8), -1);
        due.is("rooms(-1)", x.rooms(-1), -1);
        due.is("rooms(7)", x.rooms(7), 7);
        due.is("status", x.status(), 0);
        due.is("rooms(1)", x.rooms(1), 7);
        due.is("two trials in one room", x.pair(0), -5);
        due.is("nothing was made", x.count(4), 0);
        due.is("rooms(2)", x.rooms(2), 1);
        due.is("two trials in two rooms", x.pair(0), 0);
        due.is("rooms(3)", x.rooms(3), 2);
    }
}
