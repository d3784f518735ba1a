import java.util.function.Supplier;
import java.util.function.ToIntFunction;

/**
 * Holds a refused call against a world that was built alike and is not asked it: both must show the
 * same at once and after they ran on, so that nothing inside has changed either. Each pair is new,
 * so that no object is used for more than the document's 512 calls.
 */
final class Twins {
    private static final int TICKS_ON = 40;

    private final Check check;
    private final Supplier<RobotWorld> builder;

    Twins(Check check, Supplier<RobotWorld> builder) {
        this.check = check;
        this.builder = builder;
    }

    void refuse(String what, int due, ToIntFunction<RobotWorld> call) {
        RobotWorld asked = builder.get();
        RobotWorld twin = builder.get();
        check.same(what, call.applyAsInt(asked), due);
        check.alike(what + ", at once", shown(asked), shown(twin));
        check.alike(what + ", later", ranOn(asked), ranOn(twin));
    }

    private static String ranOn(RobotWorld world) {
        StringBuilder text = new StringBuilder("ran");
        for (int i = 0; i < TICKS_ON; i++) {
            text.append(' ').append(world.tick());
        }
        return text.append('\n').append(shown(world)).toString();
    }

    /** All that the face tells of a world: robots until a number is not there, squares until outside. */
    static String shown(RobotWorld world) {
        StringBuilder text = new StringBuilder("now ").append(world.now()).append('\n');
        int id = 0;
        for (int state = world.robotState(0); state != RobotWorld.NONE; state = world.robotState(id)) {
            text.append("robot ").append(id).append(" state ").append(state)
                    .append(" on ").append(world.robotX(id)).append(' ').append(world.robotY(id));
            for (int r = 0; r <= Words.SLEEP_LEFT; r++) {
                text.append(' ').append(world.reg(id, r));
            }
            text.append('\n');
            id++;
        }
        for (int y = 0; world.at(0, y) != -2; y++) {
            for (int x = 0; world.at(x, y) != -2; x++) {
                text.append(world.at(x, y)).append(' ');
            }
            text.append('\n');
        }
        return text.toString();
    }
}
